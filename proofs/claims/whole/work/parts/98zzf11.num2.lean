/-! shifts and narrowing -/
theorem tn32 (x : Int) : (i32 x).toBitVec.toNat = (x % 4294967296).toNat := by
  show (BitVec.ofInt 32 x).toNat = _
  rw [BitVec.toNat_ofInt]; rfl
theorem bv32 {a b : Int32} (h : a.toBitVec.toNat = b.toBitVec.toNat) : a = b := by
  apply Int32.toBitVec_inj.mp
  exact BitVec.eq_of_toNat_eq h
theorem s31 : ∀ n, n < 32 → ((nI n).toBitVec.smod 32).toNat = n := by decide
theorem and31 (y : Int) : i32 y &&& 31 = nI (y % 32).toNat := by
  rw [pk_and (i32 y) 5 (by decide), tn32]
  congr 1
  show (y % 4294967296).toNat % 32 = _
  omega
theorem shk (y : Int) : (((i32 y &&& 31) : Int32).toBitVec.smod 32).toNat = (y % 32).toNat := by
  rw [and31]; exact s31 _ (by omega)
theorem n_shl (x y : Int) : i32 x <<< (i32 y &&& 31) = i32 (shl32 x y) := by
  unfold shl32
  rw [i32_w]
  apply bv32
  rw [pk_shl _ _ _ (shk y), tn32, tn32]
  generalize hk : (y % 32).toNat = k
  have h1 : ((x % 4294967296).toNat : Int) = x % 4294967296 := Int.toNat_of_nonneg (by omega)
  have h2 : (((x * 2 ^ k) % 4294967296).toNat : Int) = (x * 2 ^ k) % 4294967296 := Int.toNat_of_nonneg (Int.emod_nonneg _ (by decide))
  have h3 : ((((x % 4294967296).toNat * 2 ^ k % 2 ^ 32 : Nat)) : Int) = (x * 2 ^ k) % 4294967296 := by
    rw [Int.natCast_emod, Int.natCast_mul, h1, Int.natCast_pow]
    show (x % 4294967296 * 2 ^ k) % 4294967296 = _
    rw [Int.mul_emod, Int.emod_emod, ← Int.mul_emod]
  omega
theorem n_shr {x : Int} (hx : InR x) (y : Int) : i32 x >>> (i32 y &&& 31) = i32 (shr32 x y) := by
  unfold shr32
  apply Int32.toInt_inj.mp
  rw [pk_shr _ _ _ (shk y), i32_T hx, i32_toInt, Int.shiftRight_eq_div_pow]
  generalize (y % 32).toNat = k
  have h1 : InR (x / 2 ^ k) := by
    have hp : (1 : Int) ≤ 2 ^ k := by
      have : (0 : Int) < 2 ^ k := Int.pow_pos (by decide); omega
    unfold InR at *
    constructor
    · rw [Int.le_ediv_iff_mul_le (by omega)]
      generalize (2 : Int) ^ k = P at *
      omega
    · apply Int.ediv_lt_of_lt_mul (by omega)
      generalize (2 : Int) ^ k = P at *
      omega
  rw [w32_id h1]; rfl
theorem shr32_in {x : Int} (hx : InR x) (y : Int) : InR (shr32 x y) := by
  have := n_shr hx y
  have h := i32_in (i32 x >>> (i32 y &&& 31))
  unfold shr32
  generalize (y % 32).toNat = k
  have hp : (1 : Int) ≤ 2 ^ k := by
    have : (0 : Int) < 2 ^ k := Int.pow_pos (by decide); omega
  unfold InR at *
  constructor
  · rw [Int.le_ediv_iff_mul_le (by omega)]
    generalize (2 : Int) ^ k = P at *
    omega
  · apply Int.ediv_lt_of_lt_mul (by omega)
    generalize (2 : Int) ^ k = P at *
    omega
theorem ushk (y : Int) : (((i32 y).toUInt32 &&& Int32.toUInt32 31).toBitVec % 32).toNat = (y % 32).toNat := by
  have h1 : ((i32 y).toUInt32 &&& Int32.toUInt32 31).toBitVec.toNat = (y % 4294967296).toNat % 32 := by
    show ((i32 y).toBitVec &&& 31#32).toNat = _
    rw [BitVec.toNat_and, tn32]
    exact Nat.and_two_pow_sub_one_eq_mod _ 5
  rw [BitVec.toNat_umod, h1]
  show (y % 4294967296).toNat % 32 % 32 = _
  omega
theorem n_ushr (x y : Int) : ((i32 x).toUInt32 >>> ((i32 y).toUInt32 &&& Int32.toUInt32 31)).toInt32 = i32 (ushr32 x y) := by
  unfold ushr32
  rw [i32_w]
  apply bv32
  rw [pk_ushr _ _ _ (ushk y), tn32, tn32]
  generalize (y % 32).toNat = k
  have h1 : ((x % 4294967296).toNat : Int) = x % 4294967296 := Int.toNat_of_nonneg (by omega)
  have h2 : (((x % 4294967296).toNat / 2 ^ k : Nat) : Int) = (x % 4294967296) / 2 ^ k := by
    rw [Int.natCast_ediv, h1, Int.natCast_pow]; rfl
  have h3 : (x % 4294967296).toNat / 2 ^ k ≤ (x % 4294967296).toNat := Nat.div_le_self _ _
  rw [← h2]
  generalize (x % 4294967296).toNat / 2 ^ k = B at *
  omega
theorem n_i2c (x : Int) : ((i32 x).toUInt32 % 65536).toInt32 = i32 (x % 65536) := by
  rw [pk_char, tn32]
  apply bv32
  rw [tn32]
  show (BitVec.ofNat 32 _).toNat = _
  rw [BitVec.toNat_ofNat]
  omega
theorem nar_char (x : Int) : narrow .char (.int (i32 x)) = .int (i32 (x % 65536)) := by
  rw [← n_i2c, lg_i2c_nf]; rfl
theorem nar_bool {x : Int} (h : x = 0 ∨ x = 1) : narrow .boolean (.int (i32 x)) = .int (i32 x) := by
  rcases h with rfl | rfl <;> rfl
theorem nar_char' {x : Int} (h : 0 ≤ x ∧ x < 65536) : narrow .char (.int (i32 x)) = .int (i32 x) := by
  rw [nar_char, show x % 65536 = x by omega]
theorem nar_byte {x : Int} (h : -128 ≤ x ∧ x < 128) : narrow .byte (.int (i32 x)) = .int (i32 x) := by
  have e : ∀ k : Fin 256, narrow .byte (.int (i32 ((k.val : Int) - 128))) = .int (i32 ((k.val : Int) - 128)) := by decide +kernel
  have := e ⟨(x + 128).toNat, by omega⟩
  rw [show (((x + 128).toNat : Nat) : Int) - 128 = x by omega] at this
  exact this
theorem bipush_v {n : Int} (h : -128 ≤ n ∧ n < 128) : (Int8.ofInt n).toInt32 = i32 n := by
  apply Int32.toInt_inj.mp
  rw [Int8.toInt_toInt32, Int8.toInt_ofInt_of_le (by omega) (by omega), i32_T (by unfold InR; omega)]
theorem sipush_v {n : Int} (h : -32768 ≤ n ∧ n < 32768) : (Int16.ofInt n).toInt32 = i32 n := by
  apply Int32.toInt_inj.mp
  rw [Int16.toInt_toInt32, Int16.toInt_ofInt_of_le (by omega) (by omega), i32_T (by unfold InR; omega)]
