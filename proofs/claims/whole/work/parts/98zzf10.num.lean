/-! numbers of the small machine and the machine's own -/
def i32 (x : Int) : Int32 := Int32.ofInt x
def i64 (x : Int) : Int64 := Int64.ofInt x
def InR (x : Int) : Prop := -2147483648 ≤ x ∧ x < 2147483648
def InL (x : Int) : Prop := -9223372036854775808 ≤ x ∧ x < 9223372036854775808
theorem bm32 (x : Int) : x.bmod 4294967296 = w32 x := by
  unfold w32 Int.bmod
  dsimp only
  split <;> omega
theorem bm64 (x : Int) : x.bmod 18446744073709551616 = w64 x := by
  unfold w64 Int.bmod
  dsimp only
  split <;> omega
theorem i32_toInt (x : Int) : (i32 x).toInt = w32 x := by
  rw [i32, Int32.toInt_ofInt]; exact bm32 x
theorem i64_toInt (x : Int) : (i64 x).toInt = w64 x := by
  rw [i64, Int64.toInt_ofInt]; exact bm64 x
theorem w32_in (x : Int) : InR (w32 x) := by unfold InR w32; omega
theorem w64_in (x : Int) : InL (w64 x) := by unfold InL w64; omega
theorem w32_id {x : Int} (h : InR x) : w32 x = x := by unfold InR at h; unfold w32; omega
theorem w64_id {x : Int} (h : InL x) : w64 x = x := by unfold InL at h; unfold w64; omega
theorem i32_T {x : Int} (h : InR x) : (i32 x).toInt = x := by rw [i32_toInt, w32_id h]
theorem i64_T {x : Int} (h : InL x) : (i64 x).toInt = x := by rw [i64_toInt, w64_id h]
theorem i32_of (v : Int32) : i32 v.toInt = v := Int32.ofInt_toInt v
theorem i64_of (v : Int64) : i64 v.toInt = v := Int64.ofInt_toInt v
theorem i32_in (v : Int32) : InR v.toInt := by
  rw [← i32_of v, i32_toInt]; exact w32_in _
theorem i64_in (v : Int64) : InL v.toInt := by
  rw [← i64_of v, i64_toInt]; exact w64_in _
theorem i32_w (x : Int) : i32 (w32 x) = i32 x := by
  apply Int32.toInt_inj.mp; rw [i32_toInt, i32_toInt, w32_id (w32_in x)]
theorem i64_w (x : Int) : i64 (w64 x) = i64 x := by
  apply Int64.toInt_inj.mp; rw [i64_toInt, i64_toInt, w64_id (w64_in x)]
theorem i32_eq {x : Int} {v : Int32} (h : v.toInt = w32 x) : v = i32 x := by
  apply Int32.toInt_inj.mp; rw [h, i32_toInt]
theorem i64_eq {x : Int} {v : Int64} (h : v.toInt = w64 x) : v = i64 x := by
  apply Int64.toInt_inj.mp; rw [h, i64_toInt]
theorem n_add (x y : Int) : i32 x + i32 y = i32 (w32 (x + y)) := by rw [i32_w]; exact (Int32.ofInt_add x y).symm
theorem n_sub (x y : Int) : i32 x - i32 y = i32 (w32 (x - y)) := by rw [i32_w]; exact (Int32.ofInt_sub x y).symm
theorem n_mul (x y : Int) : i32 x * i32 y = i32 (w32 (x * y)) := by rw [i32_w]; exact (Int32.ofInt_mul x y).symm
theorem l_add (x y : Int) : i64 x + i64 y = i64 (w64 (x + y)) := by rw [i64_w]; exact (Int64.ofInt_add x y).symm
theorem l_sub (x y : Int) : i64 x - i64 y = i64 (w64 (x - y)) := by rw [i64_w]; exact (Int64.ofInt_sub x y).symm
theorem l_mul (x y : Int) : i64 x * i64 y = i64 (w64 (x * y)) := by rw [i64_w]; exact (Int64.ofInt_mul x y).symm
theorem l_neg (x : Int) : - i64 x = i64 (w64 (-x)) := by rw [i64_w]; exact (Int64.ofInt_neg x).symm
theorem n_div {x y : Int} (hx : InR x) (hy : InR y) : i32 x / i32 y = i32 (w32 (x.tdiv y)) := by
  rw [i32_w]; apply i32_eq; rw [Int32.toInt_div, i32_T hx, i32_T hy]; exact bm32 _
theorem l_div {x y : Int} (hx : InL x) (hy : InL y) : i64 x / i64 y = i64 (w64 (x.tdiv y)) := by
  rw [i64_w]; apply i64_eq; rw [Int64.toInt_div, i64_T hx, i64_T hy]; exact bm64 _
theorem n_rem {x y : Int} (hx : InR x) (hy : InR y) : i32 x - i32 x / i32 y * i32 y = i32 (x.tmod y) := by
  rw [n_div hx hy, i32_w, show i32 (x.tdiv y) * i32 y = i32 (x.tdiv y * y) from (Int32.ofInt_mul _ _).symm, show i32 x - i32 (x.tdiv y * y) = i32 (x - x.tdiv y * y) from (Int32.ofInt_sub _ _).symm]
  congr 1
  rw [Int.tmod_def, Int.mul_comm]
theorem n_tmodR {x y : Int} (hx : InR x) : InR (x.tmod y) := by
  have h := Int.natAbs_tmod x y
  have h2 := Nat.mod_le x.natAbs y.natAbs
  have h3 : 0 ≤ x → 0 ≤ x.tmod y := fun h => Int.tmod_nonneg y h
  unfold InR at *
  have h4 : x ≤ 0 → x.tmod y ≤ 0 := fun h => by
    have h5 := Int.tmod_nonneg y (a := -x) (by omega)
    rw [Int.neg_tmod] at h5; omega
  omega
theorem n_lt {x y : Int} (hx : InR x) (hy : InR y) : i32 x < i32 y ↔ x < y := by rw [Int32.lt_iff_toInt_lt, i32_T hx, i32_T hy]
theorem n_le {x y : Int} (hx : InR x) (hy : InR y) : i32 x ≤ i32 y ↔ x ≤ y := by rw [Int32.le_iff_toInt_le, i32_T hx, i32_T hy]
theorem n_eq {x y : Int} (hx : InR x) (hy : InR y) : i32 x = i32 y ↔ x = y := by rw [← Int32.toInt_inj, i32_T hx, i32_T hy]
theorem l_lt {x y : Int} (hx : InL x) (hy : InL y) : i64 x < i64 y ↔ x < y := by rw [Int64.lt_iff_toInt_lt, i64_T hx, i64_T hy]
theorem l_eq {x y : Int} (hx : InL x) (hy : InL y) : i64 x = i64 y ↔ x = y := by rw [← Int64.toInt_inj, i64_T hx, i64_T hy]
theorem i32_0 : i32 0 = 0 := rfl
theorem n_and (x y : Int) : i32 x &&& i32 y = i32 (and32 x y) := (i32_of _).symm
theorem n_or (x y : Int) : i32 x ||| i32 y = i32 (or32 x y) := (i32_of _).symm
theorem n_xor (x y : Int) : i32 x ^^^ i32 y = i32 (xor32 x y) := (i32_of _).symm
theorem and32_in (x y : Int) : InR (and32 x y) := i32_in _
theorem or32_in (x y : Int) : InR (or32 x y) := i32_in _
theorem xor32_in (x y : Int) : InR (xor32 x y) := i32_in _
theorem n_i2l {x : Int} (hx : InR x) : (i32 x).toInt64 = i64 x := by
  apply i64_eq; rw [Int32.toInt_toInt64, i32_T hx]
  have : InL x := by unfold InR at hx; unfold InL; omega
  rw [w64_id this]
theorem n_l2i {x : Int} (hx : InL x) : (i64 x).toInt32 = i32 (w32 x) := by
  rw [i32_w]; apply i32_eq; rw [Int64.toInt_toInt32, i64_T hx]; exact bm32 x
theorem n_lcm {x y : Int} (hx : InL x) (hy : InL y) : lg_cmp (i64 x) (i64 y) = i32 (lcm x y) := by
  unfold lg_cmp lcm
  rcases Int.lt_trichotomy x y with h | h | h
  · have h1 := (l_lt hx hy).mpr h
    have h2 : ¬ i64 y < i64 x := fun q => by have := (l_lt hy hx).mp q; omega
    have h3 : ¬ i64 x = i64 y := fun q => by have := (l_eq hx hy).mp q; omega
    simp [h1, h2, h3, h]; rfl
  · subst h
    simp [Int64.lt_irrefl]; rfl
  · have h1 := (l_lt hy hx).mpr h
    have h2 : ¬ i64 x < i64 y := fun q => by have := (l_lt hx hy).mp q; omega
    have h3 : ¬ i64 x = i64 y := fun q => by have := (l_eq hx hy).mp q; omega
    have h4 : ¬ x < y := by omega
    have h5 : ¬ x = y := by omega
    simp [h1, h2, h3, h4, h5]; rfl
theorem lcm_in (x y : Int) : InR (lcm x y) := by unfold lcm InR; split <;> (try split) <;> omega
theorem idx_in {i : Int} {n : Nat} (hi : InR i) (h : 0 ≤ i ∧ i < n) : vp_in (i32 i) n ∧ (i32 i).toNatClampNeg = i.toNat := by
  refine ⟨vp_in_iff.mpr ?_, ?_⟩
  · rw [i32_T hi]; exact h
  · show (i32 i).toInt.toNat = _
    rw [i32_T hi]
