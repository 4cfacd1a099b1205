/-! layer 2: the plain program: a day passes -/
theorem or32_n {x y : Nat} (hx : x < 2 ^ 31) (hy : y < 2 ^ 31) : or32 (x : Int) (y : Int) = ((x ||| y : Nat) : Int) := by
  have hl : x ||| y < 2 ^ 31 := Nat.or_lt_two_pow hx hy
  have e : or32 (x : Int) (y : Int) = (BitVec.ofInt 32 (x : Int) ||| BitVec.ofInt 32 (y : Int)).toInt := rfl
  have hn : (BitVec.ofInt 32 (x : Int) ||| BitVec.ofInt 32 (y : Int)).toNat = x ||| y := by
    rw [BitVec.toNat_or, BitVec.ofInt_natCast, BitVec.ofInt_natCast, BitVec.toNat_ofNat, BitVec.toNat_ofNat, Nat.mod_eq_of_lt (by omega), Nat.mod_eq_of_lt (by omega)]
  rw [e, BitVec.toInt_eq_toNat_of_lt (by rw [hn]; omega), hn]
theorem shl1_n {k : Nat} (hk : k < 31) : shl32 1 (k : Int) = ((2 ^ k : Nat) : Int) := by
  have h2 : 2 ^ k < 2 ^ 31 := Nat.pow_lt_pow_right (by decide) hk
  unfold shl32
  rw [show ((k : Int) % 32).toNat = k by omega, Int.one_mul]
  have : ((2 : Int) ^ k) = ((2 ^ k : Nat) : Int) := by rw [Int.natCast_pow]; rfl
  rw [this]
  generalize 2 ^ k = u at *
  unfold w32; omega
theorem bitN (x p : Nat) (hp : p < 32) : and32 (shr32 (x : Int) (p : Int)) 1 = if x.testBit p = true then 1 else 0 := by
  rw [and32_1]
  unfold shr32
  rw [show ((p : Int) % 32).toNat = p by omega, Nat.testBit_eq_decide_div_mod_eq]
  have : ((2 : Int) ^ p) = ((2 ^ p : Nat) : Int) := by rw [Int.natCast_pow]; rfl
  rw [this]
  have e : (x : Int) / ((2 ^ p : Nat) : Int) % 2 = ((x / 2 ^ p % 2 : Nat) : Int) := by omega
  rw [e]
  by_cases q : x / 2 ^ p % 2 = 1
  · rw [if_pos (decide_eq_true q)]; omega
  · rw [if_neg (by simp [q])]; omega
theorem bit_or {x k : Int} (hx : 0 ≤ x ∧ x < 1024) (hk : 0 ≤ k ∧ k < 10) : (0 ≤ or32 x (shl32 1 k) ∧ or32 x (shl32 1 k) < 1024) ∧ ∀ p, 0 ≤ p → p < 10 → and32 (shr32 (or32 x (shl32 1 k)) p) 1 = if p = k then 1 else and32 (shr32 x p) 1 := by
  obtain ⟨X, rfl⟩ := Int.eq_ofNat_of_zero_le hx.1
  obtain ⟨K, rfl⟩ := Int.eq_ofNat_of_zero_le hk.1
  have hX : X < 2 ^ 10 := by have := hx.2; omega
  have hK : K < 10 := by omega
  have h2 : 2 ^ K < 2 ^ 10 := Nat.pow_lt_pow_right (by decide) hK
  have e : or32 (X : Int) (shl32 1 (K : Int)) = ((X ||| 2 ^ K : Nat) : Int) := by rw [shl1_n (by omega), or32_n (by omega) (by omega)]
  have hl : X ||| 2 ^ K < 2 ^ 10 := Nat.or_lt_two_pow hX h2
  rw [e]
  refine ⟨by omega, fun p p0 p1 => ?_⟩
  obtain ⟨P, rfl⟩ := Int.eq_ofNat_of_zero_le p0
  rw [bitN _ _ (by omega), bitN _ _ (by omega), Nat.testBit_or, Nat.testBit_two_pow]
  by_cases q : (P : Int) = (K : Int)
  · rw [if_pos q, decide_eq_true (by omega : K = P), Bool.or_true, if_pos rfl]
  · rw [if_neg q, decide_eq_false (by omega : ¬ K = P), Bool.or_false]
theorem ofI (x : Int32) : Int32.ofInt x.toInt = x := Int32.ofInt_toInt x
theorem bit_nn (r l b : Int) : and32 r (xor32 (or32 l b) (-1)) = and32 (and32 r (xor32 l (-1))) (xor32 b (-1)) := by
  unfold and32 xor32 or32
  simp only [ofI]
  congr 1
  generalize Int32.ofInt r = r
  generalize Int32.ofInt l = l
  generalize Int32.ofInt b = b
  apply Int32.toBitVec_inj.mp
  simp only [Int32.toBitVec_and, Int32.toBitVec_xor, Int32.toBitVec_or]
  have h1 : (Int32.ofInt (-1)).toBitVec = BitVec.allOnes 32 := by decide
  rw [h1]
  ext i hi
  simp only [BitVec.getElem_and, BitVec.getElem_xor, BitVec.getElem_or, BitVec.getElem_allOnes]
  cases r.toBitVec[i] <;> cases l.toBitVec[i] <;> cases b.toBitVec[i] <;> rfl
section RL
variable {h h' : Hp} {a n : Int} {T S : Wd}
theorem cho_can {what who : Int} : ∀ (m : Nat) (k b v : Int), cho T S what who m k b v = b ∨ (k ≤ cho T S what who m k b v ∧ cho T S what who m k b v < k + m ∧ sCan T S (cho T S what who m k b v) what who = true)
  | 0, k, b, v => Or.inl rfl
  | m + 1, k, b, v => by
    unfold cho
    by_cases q : sCan T S k what who = true
    · rw [if_pos q]
      by_cases q3 : what = 3
      · rw [if_pos q3]; exact Or.inr ⟨by omega, by omega, q⟩
      · rw [if_neg q3]
        by_cases z : v < sPick T S k
        · rw [if_pos z]
          rcases cho_can m (k + 1) k (sPick T S k) with u | ⟨u1, u2, u3⟩
          · rw [u]; exact Or.inr ⟨by omega, by omega, q⟩
          · exact Or.inr ⟨by omega, by omega, u3⟩
        · rw [if_neg z]
          rcases cho_can m (k + 1) b v with u | ⟨u1, u2, u3⟩
          · exact Or.inl u
          · exact Or.inr ⟨by omega, by omega, u3⟩
    · rw [if_neg q]
      rcases cho_can m (k + 1) b v with u | ⟨u1, u2, u3⟩
      · exact Or.inl u
      · exact Or.inr ⟨by omega, by omega, u3⟩
/-- as IV, lapsed ones before k lapsed by today -/
def IVk (n : Int) (T S : Wd) (k : Int) : Prop := (∀ p, 0 ≤ p → p < T 2 0 → (0 ≤ S 8 p ∧ S 8 p ≤ tSize T p) ∧ (0 ≤ S 7 p ∧ S 7 p ≤ 999) ∧ (qLap S p = true → T 14 p ≤ S 0 0 ∧ (k ≤ p → T 14 p < S 0 0))) ∧ (∀ s, 0 ≤ s → s < 5 → 0 ≤ S 6 s) ∧ SUM S ≤ 1000 * (n + 10) ∧ (0 ≤ S 5 0 ∧ S 5 0 ≤ 40) ∧ (0 ≤ S 0 0 ∧ S 0 0 ≤ 100) ∧ (0 ≤ S 3 0 ∧ S 3 0 < 1024) ∧ (0 ≤ S 2 0 ∧ S 2 0 < 32) ∧ OWN T S
theorem IVk_of (iv : IV n T S) : IVk n T S 0 := by
  obtain ⟨i1, i⟩ := iv
  exact ⟨fun p p0 p1 => by
    obtain ⟨j1, j2, j3⟩ := i1 p p0 p1
    exact ⟨j1, j2, fun z => ⟨by have := j3 z; omega, fun _ => j3 z⟩⟩, i⟩
theorem qFull_k {k : Int} (iv : IVk n T S k) {p : Int} (hp : 0 ≤ p ∧ p < T 2 0) : qFull T S p = qDone T S p := by
  have := (iv.1 p hp.1 hp.2).1
  unfold qFull qDone
  by_cases q : S 8 p = tSize T p
  · rw [decide_eq_true q, decide_eq_false (by omega)]; rfl
  · rw [decide_eq_false q, decide_eq_true (by omega)]; rfl
theorem rk_u3 (r : RK h a T S) {v : Int} (hv : I32 v) : RK (st h 336 a v) a T (up1 (up1 S 3 v) 4 (and32 (ld h 337 a) (xor32 v (-1)))) ∧ FrA a h (st h 336 a v) := by
  have f := FrA_st (FrA_rf (a := a) r.w) (x := 336) (j := a) (by unfold inA; omega) (nA 336 (by decide +kernel) _) v
  exact ⟨RK_up r f ((sR_u3 v).trans (by rw [r.2.2.1])) (I32_u1 (I32_u1 r.2.2.2 hv) (and32_I _ _)), f⟩
theorem lap_step (r : RK h a T S) (tx : TX T) {k c : Int} (iv : IVk n T S k) (hk : 0 ≤ k ∧ k < T 2 0) (hc : 0 ≤ c ∧ c ≤ k) {x3 x4 : Int} (d : Nat) : ∃ h', V (d + 7) 204 51 [(2, 311), (0, a), (0, S 0 0), (0, x3), (0, x4), (0, c), (0, k)] [] h = V (d + 7) 204 51 [(2, 311), (0, a), (0, S 0 0), (0, x3), (0, x4), (0, (if ld h 311 53 = 4 then (S, c) else lapK T k (S, c)).2), (0, k + 1)] [] h' ∧ FrA a h h' ∧ RK h' a T (if ld h 311 53 = 4 then (S, c) else lapK T k (S, c)).1 ∧ IVk n T (if ld h 311 53 = 4 then (S, c) else lapK T k (S, c)).1 (k + 1) ∧ ((if ld h 311 53 = 4 then (S, c) else lapK T k (S, c)).2 = c ∨ (if ld h 311 53 = 4 then (S, c) else lapK T k (S, c)).2 = c + 1) ∧ (if ld h 311 53 = 4 then (S, c) else lapK T k (S, c)).1 0 0 = S 0 0 := by
  have w := r.w
  have ra := r.2.1
  have hT := r.K
  have t2 := hT.2.2.1
  obtain ⟨p1, p2, p3, p4, p5, p6⟩ := pieT hT hk
  have wk1 : w32 (k + 1) = k + 1 := by unfold w32; omega
  have iv' : IVk n T S (k + 1) := by
    obtain ⟨i1, i⟩ := iv
    exact ⟨fun p p0 p1 => by
      obtain ⟨j1, j2, j3⟩ := i1 p p0 p1
      exact ⟨j1, j2, fun z => ⟨(j3 z).1, fun y => (j3 z).2 (by omega)⟩⟩, i⟩
  have stay : ∀ h', FrW h h' → (ld h 311 53 = 4 ∨ ¬ (T 14 k = S 0 0 ∧ qDone T S k = false ∧ qPaid T S k = false)) → ∃ h'', V (d + 7) 204 135 [(2, 311), (0, a), (0, S 0 0), (0, x3), (0, x4), (0, c), (0, k)] [] h' = V (d + 7) 204 51 [(2, 311), (0, a), (0, S 0 0), (0, x3), (0, x4), (0, (if ld h 311 53 = 4 then (S, c) else lapK T k (S, c)).2), (0, k + 1)] [] h'' ∧ FrA a h h'' ∧ RK h'' a T (if ld h 311 53 = 4 then (S, c) else lapK T k (S, c)).1 ∧ IVk n T (if ld h 311 53 = 4 then (S, c) else lapK T k (S, c)).1 (k + 1) ∧ ((if ld h 311 53 = 4 then (S, c) else lapK T k (S, c)).2 = c ∨ (if ld h 311 53 = 4 then (S, c) else lapK T k (S, c)).2 = c + 1) ∧ (if ld h 311 53 = 4 then (S, c) else lapK T k (S, c)).1 0 0 = S 0 0 := fun h' f z => by
    have e : (if ld h 311 53 = 4 then (S, c) else lapK T k (S, c)) = (S, c) := by
      by_cases y : ld h 311 53 = 4
      · rw [if_pos y]
      · rw [if_neg y]
        rcases z with z | z
        · exact absurd z y
        · unfold lapK; rw [if_neg z]
    rw [e]
    exact ⟨h', by rw [e204_135, wk1], FrA_W f, RK_W r f, iv', Or.inl rfl, rfl⟩
  have e51 : V (d + 7) 204 51 [(2, 311), (0, a), (0, S 0 0), (0, x3), (0, x4), (0, c), (0, k)] [] h = if T 14 k = S 0 0 then V (d + 7) 204 73 [(2, 311), (0, a), (0, S 0 0), (0, x3), (0, x4), (0, c), (0, k)] [] h else V (d + 7) 204 135 [(2, 311), (0, a), (0, S 0 0), (0, x3), (0, x4), (0, c), (0, k)] [] h := by
    rw [e204_51, if_pos (F_a311 w), P_311_3 w, if_pos (F_a313 w), L_a313 w, if_pos (by decide), rt2 r.1, if_pos hk.2, e204_62, if_pos (F_a311 w), P_311_14 w, if_pos (F_a324 w), L_a324 w, if_pos (by omega), rt14 r.1 hk]
  rw [e51]
  by_cases q1 : T 14 k = S 0 0
  · have nl : qLap S k = false := by
      cases hq : qLap S k with
      | false => rfl
      | true => have := ((iv.1 k hk.1 hk.2).2.2 hq).2 (Int.le_refl _); omega
    rw [if_pos q1, e204_73, if_pos (F_a311 w), Cl_eq _ (rk_184 r k (d + 6)), nl, if_pos bI_f, e204_83, if_pos (F_a311 w), Cl_eq _ (rk_185 r hk (d + 6)), qFull_k iv hk]
    cases hD : qDone T S k with
    | true => rw [if_neg (by decide)]; exact stay h (FrW_rf w) (Or.inr (fun y => by rw [hD] at y; cases y.2.1))
    | false =>
      obtain ⟨h1, a1, f1⟩ := rk_196 r tx.1 hk d
      have r1 := RK_W r f1
      have w1 := r1.w
      rw [if_pos bI_f, e204_93, if_pos (F_a311 w), Cl_eq _ a1]
      by_cases q4 : ld h 311 53 = 4
      · rw [decide_eq_true q4, Bool.true_or, if_neg (by decide), e204_103]; exact stay h1 f1 (Or.inl q4)
      · rw [decide_eq_false q4, Bool.false_or]
        cases hP : qPaid T S k with
        | true => rw [if_neg (by decide), e204_103]; exact stay h1 f1 (Or.inr (fun y => by rw [hP] at y; cases y.2.2))
        | false =>
          have b3 := iv.2.2.2.2.2.1
          obtain ⟨bb, bp⟩ := bit_or b3 p1
          obtain ⟨r2, f2⟩ := rk_u3 r1 (v := or32 (S 3 0) (shl32 1 k)) (or32_I _ _)
          have e4 : and32 (ld h1 337 a) (xor32 (or32 (S 3 0) (shl32 1 k)) (-1)) = and32 (S 4 0) (xor32 (shl32 1 k) (-1)) := by
            rw [bit_nn, ← rs3 r1, rs4 r1]
          rw [e4] at r2
          have w2 := r2.w
          obtain ⟨r3, f3⟩ := rk_u8 r2 hk (v := 0) (I32_of (by decide))
          have ek : (if ld h 311 53 = 4 then (S, c) else lapK T k (S, c)) = (up2 (up1 (up1 S 3 (or32 (S 3 0) (shl32 1 k))) 4 (and32 (S 4 0) (xor32 (shl32 1 k) (-1)))) 8 k 0, w32 (c + 1)) := by
            rw [if_neg q4]; unfold lapK; rw [if_pos ⟨q1, hD, hP⟩]
          rw [ek]
          refine ⟨_, ?_, FrA_tr (FrA_W f1) (FrA_tr f2 f3), r3, ?_, Or.inr (by show w32 (c + 1) = c + 1; unfold w32; omega), rfl⟩
          · rw [if_pos bI_f, e204_106, if_pos (F_a311 w1), P_311_39 w1, if_pos (F_a336 w1), L_a336 w1, if_pos ra, if_pos (W_a336 w1), if_pos ra, rs3 r1, e204_119, if_pos (F_a311 w2), P_311_43 w2, if_pos (W_a340 w2), w10 ra p1, L_a340 w2, if_pos (by omega), e204_132, e204_135, wk1]
          · obtain ⟨i1, i2, i3, i4, i5, i6, i7, i8⟩ := iv'
            have nd : S 8 k < tSize T k := by
              unfold qDone at hD
              by_cases y : S 8 k < tSize T k
              · exact y
              · rw [decide_eq_false y] at hD; cases hD
            refine ⟨fun p p0 p1' => ?_, i2, i3, i4, i5, bb, i7, fun p p0 p1' => ?_⟩
            rotate_left
            · show S 9 p = -1 ∨ ((if (8 : Nat) = 8 ∧ p = k then 0 else S 8 p) = tSize T p ∧ (S 9 p = -2 ∨ (0 ≤ S 9 p ∧ S 9 p < T 1 0)))
              have o := i8 p p0 p1'
              by_cases y : p = k
              · rw [y] at o
                rcases o with o | o
                · exact Or.inl (by rw [y]; exact o)
                · omega
              · rw [if_neg (fun z => y z.2)]; exact o
            obtain ⟨j1, j2, j3⟩ := i1 p p0 p1'
            have hp10 : p < 10 := by omega
            refine ⟨?_, j2, fun z => ?_⟩
            · show 0 ≤ (if (8 : Nat) = 8 ∧ p = k then 0 else S 8 p) ∧ (if (8 : Nat) = 8 ∧ p = k then 0 else S 8 p) ≤ tSize T p
              split
              · have := tSize_b hT (p := p) ⟨p0, p1'⟩; omega
              · exact j1
            · show T 14 p ≤ S 0 0 ∧ (k + 1 ≤ p → T 14 p < S 0 0)
              have z : (!decide (and32 (shr32 (or32 (S 3 0) (shl32 1 k)) p) 1 = 0)) = true := z
              rw [bp p p0 hp10] at z
              by_cases y : p = k
              · rw [y]; exact ⟨by omega, fun u => by omega⟩
              · rw [if_neg y] at z
                exact j3 z
  · rw [if_neg q1]
    exact stay h (FrW_rf w) (Or.inr (fun y => q1 y.1))
theorem lap_loop (tx : TX T) {what when' : Int} {x3 x4 : Int} (d : Nat) : ∀ (m : Nat) (k c : Int) (S : Wd) (h : Hp), RK h a T S → IVk n T S k → ld h 311 53 = what → S 0 0 = when' → 0 ≤ k → k + m = T 2 0 → 0 ≤ c → c ≤ k → ∃ h', V (d + 7) 204 51 [(2, 311), (0, a), (0, when'), (0, x3), (0, x4), (0, c), (0, k)] [] h = V (d + 7) 204 141 [(2, 311), (0, a), (0, when'), (0, x3), (0, x4), (0, (if what = 4 then (S, c) else fldP (lapK T) m k (S, c)).2), (9, 0)] [] h' ∧ FrA a h h' ∧ RK h' a T (if what = 4 then (S, c) else fldP (lapK T) m k (S, c)).1 ∧ IVk n T (if what = 4 then (S, c) else fldP (lapK T) m k (S, c)).1 (T 2 0) ∧ (if what = 4 then (S, c) else fldP (lapK T) m k (S, c)).1 0 0 = when' := by
  intro m
  induction m with
  | zero =>
    intro k c S h r iv e53 ew k0 hk c0 ck
    have w := r.w
    have e : (if what = 4 then (S, c) else fldP (lapK T) 0 k (S, c)) = (S, c) := by split <;> rfl
    rw [e]
    refine ⟨h, ?_, FrA_rf w, r, by rw [show T 2 0 = k by omega]; exact iv, ew⟩
    rw [e204_51, if_pos (F_a311 w), P_311_3 w, if_pos (F_a313 w), L_a313 w, if_pos (by decide), rt2 r.1, if_neg (by omega)]
  | succ m ih =>
    intro k c S h r iv e53 ew k0 hk c0 ck
    obtain ⟨h1, a1, f1, r1, iv1, c1, e1⟩ := lap_step (x3 := x3) (x4 := x4) r tx iv ⟨k0, by omega⟩ ⟨c0, ck⟩ d
    rw [e53] at a1 r1 iv1 c1 e1
    rw [ew] at a1 e1
    obtain ⟨h', a2, f2, r2, iv2, e2⟩ := ih (k + 1) ((if what = 4 then (S, c) else lapK T k (S, c)).2) _ h1 r1 iv1 ((f1.2.2 311 53 (by decide) (by decide) (by decide) (by unfold inA; omega)).trans e53) e1 (by omega) (by omega) (by omega) (by omega)
    have e : (if what = 4 then ((if what = 4 then (S, c) else lapK T k (S, c)).1, (if what = 4 then (S, c) else lapK T k (S, c)).2) else fldP (lapK T) m (k + 1) ((if what = 4 then (S, c) else lapK T k (S, c)).1, (if what = 4 then (S, c) else lapK T k (S, c)).2)) = (if what = 4 then (S, c) else fldP (lapK T) (m + 1) k (S, c)) := by
      by_cases y : what = 4
      · simp only [if_pos y]
      · simp only [if_neg y]; rfl
    rw [e] at a2 r2 iv2 e2
    exact ⟨h', a1.trans a2, FrA_tr f1 f2, r2, iv2, e2⟩
/-- a day passes in studio a -/
theorem rk_204 (r : RK h a T S) (tx : TX T) (iv : IV n T S) (hn : n ≤ 600) (hd : S 0 0 < 100) (ha : a < 3) (d : Nat) : ∃ h', C (d + 10) 204 [(2, 311), (0, a)] h = some ((9, 0), h') ∧ (h'.2 = h.2 ∧ ∀ x j : Int, x ≠ 348 → x ≠ 349 → ¬ (x = 311 ∧ j = 57) → ¬ inA a x j → ¬ ((345 ≤ x ∧ x ≤ 347) ∧ j = 100 * a + S 0 0) → ld h' x j = ld h x j) ∧ RK h' a T (sDay T S (ld h 311 53) (ld h 311 54)) ∧ IV n T (sDay T S (ld h 311 53) (ld h 311 54)) ∧ ld h' 345 (100 * a + S 0 0) = dayPaid T S (ld h 311 53) (ld h 311 54) ∧ ld h' 346 (100 * a + S 0 0) = dayPick T S (ld h 311 53) (ld h 311 54) ∧ ld h' 347 (100 * a + S 0 0) = dayLaps T S (ld h 311 53) (ld h 311 54) := by
  have w := r.w
  have ra := r.2.1
  have hT := r.K
  have d0 := iv.2.2.2.2.1
  generalize hw : ld h 311 53 = what at *
  generalize hh : ld h 311 54 = who at *
  obtain ⟨h1, a1, f1, r1, iv1⟩ := rk_200 r tx iv hn (d + 2)
  rw [hw, hh] at a1 r1 iv1
  have e100 : (dayPay T S what who).1 0 0 = S 0 0 := dayPay_0 T S what who 0
  have hpd : (dayPay T S what who).2 = dayPaid T S what who := rfl
  have k53 : ∀ h', FrA a h h' → ld h' 311 53 = what := fun h' f => (f.2.2 311 53 (by decide) (by decide) (by decide) (by unfold inA; omega)).trans hw
  have k54 : ∀ h', FrA a h h' → ld h' 311 54 = who := fun h' f => (f.2.2 311 54 (by decide) (by decide) (by decide) (by unfold inA; omega)).trans hh
  have w1 := r1.w
  have a201 := rk_201 r1.1 (x := S 0 0) ⟨d0.1, hd⟩ (d + 9)
  rw [k53 h1 f1] at a201
  have hpk : dayPick T S what who = dayCh T (dayPay T S what who).1 what who := rfl
  have hS2 : sDay T S what who = up1 (dayLp T (daySt T (dayPay T S what who).1 what who) what).1 0 (w32 ((dayLp T (daySt T (dayPay T S what who).1 what who) what).1 0 0 + 1)) := rfl
  have hlp : dayLaps T S what who = (dayLp T (daySt T (dayPay T S what who).1 what who) what).2 := rfl
  rw [hpk, hS2, hlp, ← hpd]
  have e0 : C (d + 10) 204 [(2, 311), (0, a)] h = if bI (!decide (what = 0) && qHail T (S 0 0)) = 0 then V (d + 10) 204 25 [(2, 311), (0, a), (0, S 0 0), (0, (dayPay T S what who).2), (9, 0), (9, 0), (9, 0)] [] h1 else V (d + 10) 204 21 [(2, 311), (0, a), (0, S 0 0), (0, (dayPay T S what who).2), (9, 0), (9, 0), (9, 0)] [] h1 := by
    rw [ce_204, e204_0, if_pos (F_a311 w), P_311_36 w, if_pos (F_a333 w), L_a333 w, if_pos ra, rs0 r, e204_7, if_pos (F_a311 w), Cl_eq _ a1, if_pos (F_a311 w1), Cl_eq _ a201]
  generalize dayPay T S what who = A at *
  -- what is painted
  have hpick : ∃ h2, C (d + 10) 204 [(2, 311), (0, a)] h = V (d + 10) 204 30 [(2, 311), (0, a), (0, S 0 0), (0, A.2), (9, 0), (9, 0), (9, 0)] [(0, dayCh T A.1 what who)] h2 ∧ FrW h1 h2 := by
    rw [e0]
    unfold dayCh
    rw [e100]
    by_cases q : what = 0 ∨ qHail T (S 0 0) = false
    · have eb : (!decide (what = 0) && qHail T (S 0 0)) = false := by
        rcases q with q | q
        · rw [decide_eq_true q]; rfl
        · rw [q, Bool.and_false]
      obtain ⟨h2, a2, f2⟩ := rk_202 r1 tx iv1 (d + 1)
      rw [k53 h1 f1, k54 h1 f1] at a2
      rw [eb, if_pos bI_f, if_pos q, e204_25, if_pos (F_a311 w1), Cl_eq _ a2]
      exact ⟨h2, rfl, f2⟩
    · have eb : (!decide (what = 0) && qHail T (S 0 0)) = true := by
        rw [decide_eq_false (fun y => q (Or.inl y))]
        cases hq : qHail T (S 0 0) with
        | true => rfl
        | false => exact absurd (Or.inr hq) q
      rw [eb, if_neg (by decide), if_neg q, e204_21]
      exact ⟨h1, rfl, FrW_rf w1⟩
  obtain ⟨h2, e2, f2⟩ := hpick
  have r2 := RK_W r1 f2
  have hch : dayCh T A.1 what who = -1 ∨ ((0 ≤ dayCh T A.1 what who ∧ dayCh T A.1 what who < T 2 0) ∧ sCan T A.1 (dayCh T A.1 what who) what who = true) := by
    unfold dayCh
    split
    · have t2 := hT.2.2.1
      rcases cho_can (T := T) (S := A.1) (what := what) (who := who) (T 2 0).toNat 0 (-1) 0 with u | ⟨u1, u2, u3⟩
      · exact Or.inl u
      · exact Or.inr ⟨⟨u1, by unfold sChoose; omega⟩, u3⟩
    · exact Or.inl rfl
  rw [e2]
  have hpaint : ∃ h3, V (d + 10) 204 30 [(2, 311), (0, a), (0, S 0 0), (0, A.2), (9, 0), (9, 0), (9, 0)] [(0, dayCh T A.1 what who)] h2 = V (d + 10) 204 45 [(2, 311), (0, a), (0, S 0 0), (0, A.2), (0, dayCh T A.1 what who), (9, 0), (9, 0)] [] h3 ∧ FrA a h2 h3 ∧ RK h3 a T (daySt T A.1 what who) ∧ IV n T (daySt T A.1 what who) := by
    unfold daySt
    generalize dayCh T A.1 what who = p at *
    have w2 := r2.w
    rcases hch with z | ⟨z1, z2⟩
    · have np : qPie T p = false := by
        cases hq : qPie T p with
        | false => rfl
        | true => have := qPie_iff.mp hq; omega
      rw [np, if_neg (by decide), e204_30, if_pos z]
      exact ⟨h2, rfl, FrA_rf w2, r2, iv1⟩
    · have hs : A.1 8 p < tSize T p := by
        unfold sCan qOpen qDone at z2
        by_cases y : A.1 8 p < tSize T p
        · exact y
        · rw [decide_eq_false y] at z2; simp at z2
      obtain ⟨h3, a3, f3, r3, iv3⟩ := rk_203 r2 iv1 z1 hs (d + 8)
      rw [qPie_iff.mpr z1, if_pos rfl, e204_30, if_neg (by omega), if_pos (F_a311 w2), Cl_eq _ a3]
      exact ⟨h3, rfl, f3, r3, iv3⟩
  obtain ⟨h3, e3, f3, r3, iv3⟩ := hpaint
  rw [e3]
  have fA3 : FrA a h h3 := FrA_tr f1 (FrA_tr (FrA_W f2) f3)
  have e30 : daySt T A.1 what who 0 0 = S 0 0 := (daySt_0 T A.1 what who 0).trans e100
  generalize dayCh T A.1 what who = p at *
  generalize daySt T A.1 what who = B at *
  have t2 := hT.2.2.1
  obtain ⟨h4, a4, f4, r4, iv4, e4⟩ := lap_loop (n := n) (a := a) tx (what := what) (when' := S 0 0) (x3 := A.2) (x4 := p) (d + 3) (T 2 0).toNat 0 0 B h3 r3 (IVk_of iv3) (k53 h3 fA3) e30 (by decide) (by omega) (by decide) (by decide)
  have eL : (if what = 4 then (B, (0 : Int)) else fldP (lapK T) (T 2 0).toNat 0 (B, 0)) = dayLp T B what := rfl
  rw [eL] at a4 r4 iv4 e4
  generalize dayLp T B what = D at *
  have w4 := r4.w
  have hi : w32 (w32 (100 * a) + S 0 0) = 100 * a + S 0 0 := by unfold w32; omega
  have n45 := nA 345 (by decide +kernel) (100 * a + S 0 0)
  have n46 := nA 346 (by decide +kernel) (100 * a + S 0 0)
  have n47 := nA 347 (by decide +kernel) (100 * a + S 0 0)
  have w5 : WF (st h4 345 (100 * a + S 0 0) A.2) := wf_st w4 n45
  have w6 : WF (st (st h4 345 (100 * a + S 0 0) A.2) 346 (100 * a + S 0 0) p) := wf_st w5 n46
  have w7 : WF (st (st (st h4 345 (100 * a + S 0 0) A.2) 346 (100 * a + S 0 0) p) 347 (100 * a + S 0 0) D.2) := wf_st w6 n47
  have r7 : RK (st (st (st h4 345 (100 * a + S 0 0) A.2) 346 (100 * a + S 0 0) p) 347 (100 * a + S 0 0) D.2) a T D.1 := RK_eq r4 w7 (fun x j u v => by rw [ld_st_ne (by omega), ld_st_ne (by omega), ld_st_ne (by omega)])
  obtain ⟨r8, f8⟩ := rk_u0 r7 (v := w32 (D.1 0 0 + 1)) (w32_I _)
  have g5 : ld (st (st (st h4 345 (100 * a + S 0 0) A.2) 346 (100 * a + S 0 0) p) 347 (100 * a + S 0 0) D.2) 345 (100 * a + S 0 0) = A.2 := by rw [ld_st_ne (Or.inl (by decide)), ld_st_ne (Or.inl (by decide)), ld_st_eq]
  have g6 : ld (st (st (st h4 345 (100 * a + S 0 0) A.2) 346 (100 * a + S 0 0) p) 347 (100 * a + S 0 0) D.2) 346 (100 * a + S 0 0) = p := by rw [ld_st_ne (Or.inl (by decide)), ld_st_eq]
  have g7 : ld (st (st (st h4 345 (100 * a + S 0 0) A.2) 346 (100 * a + S 0 0) p) 347 (100 * a + S 0 0) D.2) 347 (100 * a + S 0 0) = D.2 := ld_st_eq _ _ _ _
  have fr7 : ∀ x j, ¬ ((345 ≤ x ∧ x ≤ 347) ∧ j = 100 * a + S 0 0) → ld (st (st (st h4 345 (100 * a + S 0 0) A.2) 346 (100 * a + S 0 0) p) 347 (100 * a + S 0 0) D.2) x j = ld h4 x j := fun x j e => by rw [ld_st_ne (by omega), ld_st_ne (by omega), ld_st_ne (by omega)]
  have s7 : (st (st (st h4 345 (100 * a + S 0 0) A.2) 346 (100 * a + S 0 0) p) 347 (100 * a + S 0 0) D.2).2 = h4.2 := rfl
  have e141 : V (d + 10) 204 141 [(2, 311), (0, a), (0, S 0 0), (0, A.2), (0, p), (0, D.2), (9, 0)] [] h4 = V (d + 10) 204 179 [(2, 311), (0, a), (9, 0), (9, 0), (9, 0), (9, 0), (9, 0)] [] (st (st (st h4 345 (100 * a + S 0 0) A.2) 346 (100 * a + S 0 0) p) 347 (100 * a + S 0 0) D.2) := by
    rw [e204_141, if_pos (F_a311 w4), P_311_48 w4, if_pos (W_a345 w4), hi, L_a345 w4, if_pos (by omega), e204_153, if_pos (F_a311 w5), P_311_49 w5, if_pos (W_a346 w5), hi, L_a346 w5, if_pos (by omega), e204_166, if_pos (F_a311 w6), P_311_50 w6, if_pos (W_a347 w6), hi, L_a347 w6, if_pos (by omega)]
  generalize st (st (st h4 345 (100 * a + S 0 0) A.2) 346 (100 * a + S 0 0) p) 347 (100 * a + S 0 0) D.2 = h7 at *
  have fA4 : FrA a h h4 := FrA_tr fA3 f4
  refine ⟨_, ?_, ⟨f8.2.1.trans (s7.trans fA4.2.1), fun x j u1 u2 u3 u4 u5 => (f8.2.2 x j u1 u2 u3 u4).trans ((fr7 x j u5).trans (fA4.2.2 x j u1 u2 u3 u4))⟩, r8, ?_, (f8.2.2 345 _ (by decide) (by decide) (by omega) (by unfold inA; omega)).trans g5, (f8.2.2 346 _ (by decide) (by decide) (by omega) (by unfold inA; omega)).trans g6, (f8.2.2 347 _ (by decide) (by decide) (by omega) (by unfold inA; omega)).trans g7⟩
  · rw [e204_45, a4, e141, e204_179, if_pos (F_a311 w7), P_311_36 w7, if_pos (F_a333 w7), L_a333 w7, if_pos ra, if_pos (W_a333 w7), if_pos ra, rs0 r7, e204_189]
  · obtain ⟨i1, i2, i3, i4, i5, i6, i7⟩ := iv4
    have hw1 : w32 (D.1 0 0 + 1) = D.1 0 0 + 1 := by rw [e4]; unfold w32; omega
    rw [hw1]
    refine ⟨fun q q0 q1 => ?_, i2, i3, i4, ⟨by show 0 ≤ D.1 0 0 + 1; omega, by show D.1 0 0 + 1 ≤ 100; omega⟩, i6, i7⟩
    obtain ⟨j1, j2, j3⟩ := i1 q q0 q1
    exact ⟨j1, j2, fun z => by show T 14 q < D.1 0 0 + 1; have := (j3 z).1; omega⟩
end RL
