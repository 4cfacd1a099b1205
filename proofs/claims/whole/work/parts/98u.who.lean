/-! layer 2: the plain program: who it can be -/
def bt (x p : Int) : Int := and32 (shr32 x p) 1
theorem bt_b (x p : Int) : bt x p = 0 ∨ bt x p = 1 := by unfold bt; rw [and32_1]; omega
theorem and32_n {x y : Nat} (hx : x < 2 ^ 31) (hy : y < 2 ^ 31) : and32 (x : Int) (y : Int) = ((x &&& y : Nat) : Int) := by
  have hl : x &&& y < 2 ^ 31 := Nat.and_lt_two_pow x hy
  have e : and32 (x : Int) (y : Int) = (BitVec.ofInt 32 (x : Int) &&& BitVec.ofInt 32 (y : Int)).toInt := rfl
  have hn : (BitVec.ofInt 32 (x : Int) &&& BitVec.ofInt 32 (y : Int)).toNat = x &&& y := by
    rw [BitVec.toNat_and, BitVec.ofInt_natCast, BitVec.ofInt_natCast, BitVec.toNat_ofNat, BitVec.toNat_ofNat, Nat.mod_eq_of_lt (by omega), Nat.mod_eq_of_lt (by omega)]
  rw [e, BitVec.toInt_eq_toNat_of_lt (by rw [hn]; omega), hn]
theorem btN (x p : Nat) (hp : p < 32) : bt (x : Int) (p : Int) = 1 ↔ x.testBit p = true := by
  unfold bt; rw [bitN x p hp]; split <;> simp_all
theorem bit_or24 {x k : Int} (hx : 0 ≤ x ∧ x < 16777216) (hk : 0 ≤ k ∧ k < 24) : (0 ≤ or32 x (shl32 1 k) ∧ or32 x (shl32 1 k) < 16777216) ∧ ∀ p, 0 ≤ p → p < 24 → bt (or32 x (shl32 1 k)) p = if p = k then 1 else bt x p := by
  obtain ⟨X, rfl⟩ := Int.eq_ofNat_of_zero_le hx.1
  obtain ⟨K, rfl⟩ := Int.eq_ofNat_of_zero_le hk.1
  have hX : X < 2 ^ 24 := by have := hx.2; omega
  have hK : K < 24 := by omega
  have h2 : 2 ^ K < 2 ^ 24 := Nat.pow_lt_pow_right (by decide) hK
  have e : or32 (X : Int) (shl32 1 (K : Int)) = ((X ||| 2 ^ K : Nat) : Int) := by rw [shl1_n (by omega), or32_n (by omega) (by omega)]
  have hl : X ||| 2 ^ K < 2 ^ 24 := Nat.or_lt_two_pow hX h2
  rw [e]
  refine ⟨by omega, fun p p0 p1 => ?_⟩
  obtain ⟨P, rfl⟩ := Int.eq_ofNat_of_zero_le p0
  unfold bt
  rw [bitN _ _ (by omega), bitN _ _ (by omega), Nat.testBit_or, Nat.testBit_two_pow]
  by_cases q : (P : Int) = (K : Int)
  · rw [if_pos q, decide_eq_true (by omega : K = P), Bool.or_true, if_pos rfl]
  · rw [if_neg q, decide_eq_false (by omega : ¬ K = P), Bool.or_false]
theorem sub_bits {f w : Int} (hf : 0 ≤ f ∧ f < 1024) (hw : 0 ≤ w ∧ w < 1024) : and32 f w = w ↔ ∀ p, 0 ≤ p → p < 10 → bt w p = 1 → bt f p = 1 := by
  obtain ⟨F, rfl⟩ := Int.eq_ofNat_of_zero_le hf.1
  obtain ⟨W, rfl⟩ := Int.eq_ofNat_of_zero_le hw.1
  have hW : W < 2 ^ 10 := by have := hw.2; omega
  have hF : F < 2 ^ 10 := by have := hf.2; omega
  rw [and32_n (by omega) (by omega)]
  constructor
  · intro e p p0 p1 b
    obtain ⟨P, rfl⟩ := Int.eq_ofNat_of_zero_le p0
    have e : F &&& W = W := by omega
    rw [btN _ _ (by omega)] at b ⊢
    rw [← e, Nat.testBit_and] at b
    simp at b; exact b.1
  · intro e
    have : F &&& W = W := by
      apply Nat.eq_of_testBit_eq
      intro i
      rw [Nat.testBit_and]
      by_cases hi : i < 10
      · have := e (i : Int) (by omega) (by omega)
        rw [btN _ _ (by omega), btN _ _ (by omega)] at this
        cases u : W.testBit i with
        | false => rw [Bool.and_false]
        | true => rw [this u]; rfl
      · rw [Nat.testBit_lt_two_pow (Nat.lt_of_lt_of_le hW (Nat.pow_le_pow_right (by decide) (by omega))), Bool.and_false]
    omega
theorem dis_bits {f w : Int} (hf : 0 ≤ f ∧ f < 1024) (hw : 0 ≤ w ∧ w < 1024) : and32 f w = 0 ↔ ∀ p, 0 ≤ p → p < 10 → bt w p = 1 → bt f p = 0 := by
  obtain ⟨F, rfl⟩ := Int.eq_ofNat_of_zero_le hf.1
  obtain ⟨W, rfl⟩ := Int.eq_ofNat_of_zero_le hw.1
  have hW : W < 2 ^ 10 := by have := hw.2; omega
  have hF : F < 2 ^ 10 := by have := hf.2; omega
  rw [and32_n (by omega) (by omega)]
  constructor
  · intro e p p0 p1 b
    obtain ⟨P, rfl⟩ := Int.eq_ofNat_of_zero_le p0
    have e : F &&& W = 0 := by omega
    rw [btN _ _ (by omega)] at b
    rcases bt_b (F : Int) (P : Int) with q | q
    · exact q
    · rw [btN _ _ (by omega)] at q
      have : (F &&& W).testBit P = true := by rw [Nat.testBit_and, q, b]; rfl
      rw [e, Nat.zero_testBit] at this
      exact absurd this (by decide)
  · intro e
    have : F &&& W = 0 := by
      apply Nat.eq_of_testBit_eq
      intro i
      rw [Nat.testBit_and, Nat.zero_testBit]
      by_cases hi : i < 10
      · have := e (i : Int) (by omega) (by omega)
        cases u : W.testBit i with
        | false => rw [Bool.and_false]
        | true =>
          have t := this ((btN _ _ (by omega)).mpr u)
          cases v : F.testBit i with
          | false => rfl
          | true => rw [(btN F i (by omega)).mpr v] at t; omega
      · rw [Nat.testBit_lt_two_pow (Nat.lt_of_lt_of_le hW (Nat.pow_le_pow_right (by decide) (by omega))), Bool.and_false]
    omega
theorem sFace_r {T S : Wd} (hT : TOK T) (x : Int) : 0 ≤ sFace T S x ∧ sFace T S x < 1024 := by
  have t2 := hT.2.2.1
  have key : ∀ (m : Nat) (k a : Int), 0 ≤ k → k + m = T 2 0 → (0 ≤ a ∧ a < 1024) → 0 ≤ fld (fun k a => if qDone T S k && (decide (T 12 k = x) || tShr T (T 12 k) x (T 13 k)) then or32 a (shl32 1 (T 13 k)) else a) m k a ∧ fld (fun k a => if qDone T S k && (decide (T 12 k = x) || tShr T (T 12 k) x (T 13 k)) then or32 a (shl32 1 (T 13 k)) else a) m k a < 1024 := by
    intro m
    induction m with
    | zero => intro k a k0 hk ha; exact ha
    | succ m ih =>
      intro k a k0 hk ha
      obtain ⟨p1, p2, p3, p4, p5, p6⟩ := pieT hT (p := k) ⟨k0, by omega⟩
      unfold fld
      refine ih _ _ (by omega) (by omega) ?_
      split
      · exact (bit_or ha ⟨p5.1, by omega⟩).1
      · exact ha
  exact key (T 2 0).toNat 0 0 (by decide) (by omega) ⟨by decide, by decide⟩
section WO
variable {h h' : Hp} {z : Zt} {n : Int}
def Fit (h : Hp) (z : Zt) (v m X X0 : Int) : Prop := (0 ≤ X ∧ X < 1024) ∧ ∀ p, 0 ≤ p → p < 10 → (bt X p = 1 ↔ bt X0 p = 1 ∨ ∃ k, 0 ≤ k ∧ k < m ∧ ld h 355 k = 0 ∧ z.sk k = v ∧ z.sa k = p)
theorem Fit_up {v m X X0 X1 : Int} (f : Fit h z v m X X1) (e1 : X1 = or32 X0 (shl32 1 (z.sa m))) (hx : 0 ≤ X0 ∧ X0 < 1024) (hm : 0 ≤ m) (ha : 0 ≤ z.sa m ∧ z.sa m < 10) (e2 : z.sk m = v) (e3 : ld h 355 m = 0) : Fit h z v (m + 1) X X0 := by
  refine ⟨f.1, fun p p0 p1 => (f.2 p p0 p1).trans ?_⟩
  rw [e1, show bt (or32 X0 (shl32 1 (z.sa m))) p = if p = z.sa m then 1 else bt X0 p from (bit_or hx ha).2 p p0 p1]
  constructor
  · intro q
    rcases q with q | ⟨k, k0, k1, k2⟩
    · by_cases y : p = z.sa m
      · exact Or.inr ⟨m, hm, by omega, e3, e2, y.symm⟩
      · rw [if_neg y] at q; exact Or.inl q
    · exact Or.inr ⟨k, k0, by omega, k2⟩
  · intro q
    by_cases y : p = z.sa m
    · rw [if_pos y]; exact Or.inl rfl
    · rw [if_neg y]
      rcases q with q | ⟨k, k0, k1, k2⟩
      · exact Or.inl q
      · by_cases km : k = m
        · rw [km] at k2; exact absurd k2.2.2.symm y
        · exact Or.inr ⟨k, k0, by omega, k2⟩
theorem Fit_no {v m X X0 : Int} (f : Fit h z v m X X0) (e : ¬ (ld h 355 m = 0 ∧ z.sk m = v)) : Fit h z v (m + 1) X X0 := by
  refine ⟨f.1, fun p p0 p1 => (f.2 p p0 p1).trans ?_⟩
  constructor
  · intro q
    rcases q with q | ⟨k, k0, k1, k2⟩
    · exact Or.inl q
    · exact Or.inr ⟨k, k0, by omega, k2⟩
  · intro q
    rcases q with q | ⟨k, k0, k1, k2⟩
    · exact Or.inl q
    · by_cases km : k = m
      · rw [km] at k2; exact absurd ⟨k2.1, k2.2.1⟩ e
      · exact Or.inr ⟨k, k0, by omega, k2⟩
theorem n355 (j : Int) : npt 355 j := npt_A (by decide +kernel) j
theorem RR_355 (c : RR n h z) (j v : Int) (hv : v = 0 ∨ v = 1) : RR n (st h 355 j v) z ∧ FrM h (st h 355 j v) := ⟨RR_keep c (wf_st c.k.w (n355 j)) (fun x i e => ld_st_ne (by unfold rz at e; omega)), FrM_st FrM_rf (by decide) _ _⟩
theorem who_ask (d : Nat) : ∀ (m : Nat) (A : Int × Int × Int) (h1 : Hp), RR n h1 z → (m : Int) ≤ z.sz → (0 ≤ A.1 ∧ A.1 < 16777216) → (0 ≤ A.2.1 ∧ A.2.1 < 1024) → (0 ≤ A.2.2 ∧ A.2.2 < 1024) → (∀ p : Int, 0 ≤ p → p < m → bt A.1 p = ld h1 355 p) → ∃ h', V d 233 35 [(2, 311), (0, (m : Int) - 1), (9, 0), (9, 0), (9, 0), (9, 0)] [] h1 = V d 233 76 [(2, 311), (9, 0), (9, 0), (9, 0), (9, 0), (9, 0)] [] h' ∧ RR n h' z ∧ FrM h1 h' ∧ (∀ j, (m : Int) - 1 ≤ j → ld h' 355 j = ld h1 355 j) ∧ Fit h' z 1 m (askf z.sk z.sa m A).2.1 A.2.1 ∧ Fit h' z 0 m (askf z.sk z.sa m A).2.2 A.2.2
  | 0, A, h1, c, hm, a1, a2, a3, ha => by
    refine ⟨h1, ?_, c, FrM_rf, fun _ _ => rfl, ?_, ?_⟩
    · rw [e233_35, if_pos (by decide)]
    · refine ⟨a2, fun p p0 p1 => ⟨Or.inl, fun q => ?_⟩⟩
      rcases q with q | ⟨k, k0, k1, -⟩
      · exact q
      · exact absurd k1 (by omega)
    · refine ⟨a3, fun p p0 p1 => ⟨Or.inl, fun q => ?_⟩⟩
      rcases q with q | ⟨k, k0, k1, -⟩
      · exact q
      · exact absurd k1 (by omega)
  | m + 1, A, h1, c, hm, a1, a2, a3, ha => by
    have w := c.k.w
    have sb := c.szb
    have t0 := c.k.K.1
    have hb := ha (m : Int) (by omega) (by omega)
    unfold bt at hb
    have em : (((m + 1 : Nat) : Int) - 1) = (m : Int) := by omega
    have ew : w32 ((m : Int) + (-1)) = (m : Int) - 1 := by unfold w32; omega
    rw [em]
    have e0 : V d 233 35 [(2, 311), (0, (m : Int)), (9, 0), (9, 0), (9, 0), (9, 0)] [] h1 = if ld h1 355 m = 0 then V d 233 48 [(2, 311), (0, (m : Int)), (9, 0), (9, 0), (9, 0), (9, 0)] [] h1 else V d 233 70 [(2, 311), (0, (m : Int)), (9, 0), (9, 0), (9, 0), (9, 0)] [] h1 := by
      rw [e233_35, if_neg (by omega), if_pos (F_a311 w), P_311_72 w, if_pos (F_a355 w), L_a355 w, if_pos (by omega)]
    have e70 : ∀ h2, V d 233 70 [(2, 311), (0, (m : Int)), (9, 0), (9, 0), (9, 0), (9, 0)] [] h2 = V d 233 35 [(2, 311), (0, (m : Int) - 1), (9, 0), (9, 0), (9, 0), (9, 0)] [] h2 := fun h2 => by rw [e233_70, ew]
    rw [e0]
    unfold askf
    by_cases q : ld h1 355 m = 0
    · rw [if_pos q, if_pos (hb.trans q)]
      have sk := c.sk m (by omega) (by omega)
      have e48 : V d 233 48 [(2, 311), (0, (m : Int)), (9, 0), (9, 0), (9, 0), (9, 0)] [] h1 = if ld h1 354 m = -1 then V d 233 70 [(2, 311), (0, (m : Int)), (9, 0), (9, 0), (9, 0), (9, 0)] [] h1 else V d 233 58 [(2, 311), (0, (m : Int)), (9, 0), (9, 0), (9, 0), (9, 0)] [] h1 := by
        rw [e233_48, if_pos (F_a311 w), P_311_71 w, if_pos (F_a354 w), L_a354 w, if_pos (by omega)]
      rw [e48]
      rcases sk with ⟨s2, s4, s5, s6⟩ | ⟨s01, s4, s5, s6, s7⟩
      · rw [if_neg (by omega), if_pos s2]
        obtain ⟨c2, f2⟩ := RR_355 c (z.sa m) 1 (Or.inr rfl)
        obtain ⟨b1, b2⟩ := bit_or24 a1 (k := z.sa m) ⟨s5, by omega⟩
        obtain ⟨h', x1, x2, x3, x4, x6, x7⟩ := who_ask d m (or32 A.1 (shl32 1 (z.sa m)), A.2.1, A.2.2) _ c2 (by omega) b1 a2 a3 (fun p p0 p1 => by
          show bt (or32 A.1 (shl32 1 (z.sa m))) p = _
          rw [b2 p p0 (by omega)]
          by_cases y : p = z.sa m
          · rw [if_pos y, y, ld_st_eq]
          · rw [if_neg y, ld_st_ne (Or.inr y)]; exact ha p p0 (by omega))
        have l0 : ld h' 355 m = ld h1 355 m := (x4 m (by omega)).trans (ld_st_ne (Or.inr (by omega)))
        refine ⟨h', ?_, x2, FrM_tr f2 x3, fun j hj => (x4 j (by omega)).trans (ld_st_ne (Or.inr (by omega))), ?_, ?_⟩
        · rw [e233_58, if_pos (F_a311 w), P_311_72 w, if_pos (F_a311 w), P_311_71 w, if_pos (F_a354 w), L_a354 w, if_pos (by omega), if_pos (W_a355 w), s4, L_a355 w, if_pos (by omega), if_pos (Or.inr rfl), e70, x1]
        · have := Fit_no x6 (by rw [s2]; omega)
          exact this
        · have := Fit_no x7 (by rw [s2]; omega)
          exact this
      · rw [if_pos s4, if_neg (by omega), e70]
        rcases s01 with s0 | s1
        · rw [if_neg (by omega)]
          have b1 := (bit_or a3 (k := z.sa m) ⟨s6.1, by omega⟩).1
          obtain ⟨h', x1, x2, x3, x4, x6, x7⟩ := who_ask d m (A.1, A.2.1, or32 A.2.2 (shl32 1 (z.sa m))) _ c (by omega) a1 a2 b1 (fun p p0 p1 => ha p p0 (by omega))
          have l0 : ld h' 355 m = ld h1 355 m := x4 m (by omega)
          exact ⟨h', x1, x2, x3, fun j hj => x4 j (by omega), Fit_no x6 (by rw [s0]; omega), Fit_up x7 rfl a3 (by omega) ⟨s6.1, by omega⟩ s0 (l0.trans q)⟩
        · rw [if_pos s1]
          have b1 := (bit_or a2 (k := z.sa m) ⟨s6.1, by omega⟩).1
          obtain ⟨h', x1, x2, x3, x4, x6, x7⟩ := who_ask d m (A.1, or32 A.2.1 (shl32 1 (z.sa m)), A.2.2) _ c (by omega) a1 b1 a3 (fun p p0 p1 => ha p p0 (by omega))
          have l0 : ld h' 355 m = ld h1 355 m := x4 m (by omega)
          exact ⟨h', x1, x2, x3, fun j hj => x4 j (by omega), Fit_up x6 rfl a2 (by omega) ⟨s6.1, by omega⟩ s1 (l0.trans q), Fit_no x7 (by rw [s1]; omega)⟩
    · rw [if_neg q, if_neg (show ¬ and32 (shr32 A.1 (m : Int)) 1 = 0 by rw [hb]; exact q), e70]
      obtain ⟨h', x1, x2, x3, x4, x6, x7⟩ := who_ask d m A _ c (by omega) a1 a2 a3 (fun p p0 p1 => ha p p0 (by omega))
      have l0 : ld h' 355 m = ld h1 355 m := x4 m (by omega)
      exact ⟨h', x1, x2, x3, fun j hj => x4 j (by omega), Fit_no x6 (by rw [l0]; exact fun y => q y.1), Fit_no x7 (by rw [l0]; exact fun y => q y.1)⟩
/-- what an entry that stands asks of a face -/
def qNo (h : Hp) (z : Zt) (x : Int) (k : Int) : Bool := decide (ld h 355 k = 0) && decide (z.sk k ≠ 2) && decide (bt x (z.sa k) ≠ z.sk k)
theorem who_fit (c : RR n h z) {x : Int} (a b : Int) (d : Nat) (hm : zKn z ≤ z.sz ∧ 0 ≤ zKn z) : ∀ (m : Nat) (k y : Int), 0 ≤ k → k + m = zKn z → V (d + 1) 233 102 [(2, 311), (0, a), (0, b), (0, x), (0, y), (0, k)] [] h = V (d + 1) 233 171 [(2, 311), (0, a), (0, b), (9, 0), (0, if anyf (qNo h z x) m k = true then 0 else y), (9, 0)] [] h
  | 0, k, y, k0, hk => by
    have w := c.k.w
    rw [e233_102, if_pos (F_a311 w), Cl_eq _ (rk_232 c d), if_neg (by omega)]; rfl
  | m + 1, k, y, k0, hk => by
    have w := c.k.w
    have sb := c.szb
    have sk := c.sk k k0 (by omega)
    have wk : w32 (k + 1) = k + 1 := by unfold w32; omega
    have e165 : ∀ u, V (d + 1) 233 165 [(2, 311), (0, a), (0, b), (0, x), (0, u), (0, k)] [] h = V (d + 1) 233 102 [(2, 311), (0, a), (0, b), (0, x), (0, u), (0, k + 1)] [] h := fun u => by rw [e233_165, wk]
    have no : qNo h z x k = false → (if anyf (qNo h z x) (m + 1) k = true then 0 else y) = (if anyf (qNo h z x) m (k + 1) = true then 0 else y) := fun e => by
      have : anyf (qNo h z x) (m + 1) k = anyf (qNo h z x) m (k + 1) := by
        show (qNo h z x k || anyf (qNo h z x) m (k + 1)) = _
        rw [e, Bool.false_or]
      rw [this]
    rw [e233_102, if_pos (F_a311 w), Cl_eq _ (rk_232 c d), if_pos (by omega), if_pos (F_a311 w), P_311_72 w, if_pos (F_a355 w), L_a355 w, if_pos (by omega)]
    by_cases q : ld h 355 k = 0
    · rw [if_pos q, e233_121, if_pos (F_a311 w), P_311_71 w, if_pos (F_a354 w), L_a354 w, if_pos (by omega)]
      rcases sk with ⟨s2, s4, s5, s6⟩ | ⟨s01, s4, s5, s6, s7⟩
      · rw [if_neg (by omega), e165, who_fit c a b d hm m (k + 1) y (by omega) (by omega), no (by unfold qNo; rw [s2]; simp)]
      · have e132 : V (d + 1) 233 132 [(2, 311), (0, a), (0, b), (0, x), (0, y), (0, k)] [] h = V (d + 1) 233 152 [(2, 311), (0, a), (0, b), (0, x), (0, y), (0, k)] [(0, bt x (z.sa k))] h := by
          rw [e233_132, if_pos (F_a311 w), P_311_69 w, if_pos (F_a352 w), L_a352 w, if_pos (by omega), s5]
          show (if bt x (z.sa k) = 1 then _ else _) = _
          rcases bt_b x (z.sa k) with u | u
          · rw [if_neg (by omega), e233_151, u]
          · rw [if_pos u, e233_147, u]
        rw [if_pos s4, e132, e233_152, if_pos (F_a311 w), P_311_70 w, if_pos (F_a353 w), L_a353 w, if_pos (by omega), s7]
        by_cases u : bt x (z.sa k) = z.sk k
        · rw [if_pos u, e165, who_fit c a b d hm m (k + 1) y (by omega) (by omega), no (by unfold qNo; rw [decide_eq_false (fun v : bt x (z.sa k) ≠ z.sk k => v u), Bool.and_false])]
        · rw [if_neg u, e233_162, e165, who_fit c a b d hm m (k + 1) 0 (by omega) (by omega)]
          have : anyf (qNo h z x) (m + 1) k = true := by
            show (qNo h z x k || anyf (qNo h z x) m (k + 1)) = true
            have : qNo h z x k = true := by
              unfold qNo; rw [decide_eq_true q, decide_eq_true u, decide_eq_true (show z.sk k ≠ 2 by omega)]; rfl
            rw [this, Bool.true_or]
          rw [if_pos this]
          split <;> rfl
    · rw [if_neg q, e165, who_fit c a b d hm m (k + 1) y (by omega) (by omega), no (by unfold qNo; rw [decide_eq_false q, Bool.false_and, Bool.false_and])]
theorem anyf_tt {f : Int → Bool} : ∀ (m : Nat) (k : Int), anyf f m k = true ↔ ∃ i, k ≤ i ∧ i < k + m ∧ f i = true
  | 0, k => ⟨fun e => Bool.noConfusion e, fun ⟨i, i0, i1, _⟩ => absurd i1 (by omega)⟩
  | m + 1, k => by
    show (f k || anyf f m (k + 1)) = true ↔ _
    rw [Bool.or_eq_true, anyf_tt m (k + 1)]
    constructor
    · intro e
      rcases e with e | ⟨i, i0, i1, i2⟩
      · exact ⟨k, by omega, by omega, e⟩
      · exact ⟨i, by omega, by omega, i2⟩
    · intro ⟨i, i0, i1, i2⟩
      by_cases y : i = k
      · rw [y] at i2; exact Or.inl i2
      · exact Or.inr ⟨i, by omega, by omega, i2⟩
theorem fit_any {x W U : Int} (hx : 0 ≤ x ∧ x < 1024) (c : RR n h z) (hm : zKn z ≤ z.sz ∧ 0 ≤ zKn z) (fw : Fit h z 1 (zKn z) W 0) (fu : Fit h z 0 (zKn z) U 0) : qFit W U x = !(anyf (qNo h z x) (zKn z).toNat 0) := by
  have b0 : ∀ p : Int, bt 0 p = 0 := fun p => by
    unfold bt shr32; rw [Int.zero_ediv]; decide
  have t0 := c.k.K.1
  unfold qFit
  cases ha : anyf (qNo h z x) (zKn z).toNat 0 with
  | true =>
    obtain ⟨k, k0, k1, k2⟩ := (anyf_tt _ _).mp ha
    unfold qNo at k2
    simp only [Bool.and_eq_true, decide_eq_true_eq] at k2
    obtain ⟨⟨s1, s2⟩, s3⟩ := k2
    have sk := c.sk k k0 (by omega)
    rcases sk with ⟨y, -⟩ | ⟨s01, s4, s5, s6, s7⟩
    · exact absurd y s2
    · rcases s01 with s0 | s0
      · have hb := (fu.2 (z.sa k) s6.1 (by omega)).mpr (Or.inr ⟨k, k0, by omega, s1, s0, rfl⟩)
        have : ¬ and32 x U = 0 := fun e => by
          have := (dis_bits hx fu.1).mp e (z.sa k) s6.1 (by omega) hb
          rw [s0] at s3; exact s3 this
        rw [decide_eq_false this, Bool.and_false]; rfl
      · have hb := (fw.2 (z.sa k) s6.1 (by omega)).mpr (Or.inr ⟨k, k0, by omega, s1, s0, rfl⟩)
        have : ¬ and32 x W = W := fun e => by
          have := (sub_bits hx fw.1).mp e (z.sa k) s6.1 (by omega) hb
          rw [s0] at s3; exact s3 this
        rw [decide_eq_false this, Bool.false_and]; rfl
  | false =>
    have no : ∀ k, 0 ≤ k → k < zKn z → ld h 355 k = 0 → z.sk k ≠ 2 → bt x (z.sa k) = z.sk k := fun k k0 k1 e1 e2 => by
      rcases Int.decEq (bt x (z.sa k)) (z.sk k) with y | y
      · exfalso
        have : anyf (qNo h z x) (zKn z).toNat 0 = true := (anyf_tt _ _).mpr ⟨k, k0, by omega, by
          unfold qNo; rw [decide_eq_true e1, decide_eq_true e2, decide_eq_true y]; rfl⟩
        rw [ha] at this; exact absurd this (by decide)
      · exact y
    have e1 : and32 x W = W := (sub_bits hx fw.1).mpr (fun p p0 p1 hb => by
      rcases (fw.2 p p0 p1).mp hb with y | ⟨k, k0, k1, k2, k3, k4⟩
      · rw [b0] at y; exact absurd y (by decide)
      · rw [← k4, no k k0 k1 k2 (by omega), k3])
    have e2 : and32 x U = 0 := (dis_bits hx fu.1).mpr (fun p p0 p1 hb => by
      rcases (fu.2 p p0 p1).mp hb with y | ⟨k, k0, k1, k2, k3, k4⟩
      · rw [b0] at y; exact absurd y (by decide)
      · rw [← k4, no k k0 k1 k2 (by omega), k3])
    rw [decide_eq_true e1, decide_eq_true e2]; rfl
theorem who_zero (d : Nat) : ∀ (m : Nat) (k : Int) (h : Hp), RR n h z → (zKn z ≤ z.sz ∧ 0 ≤ zKn z) → 0 ≤ k → k + m = zKn z → ∃ h', V (d + 1) 233 7 [(2, 311), (0, k), (9, 0), (9, 0), (9, 0), (9, 0)] [] h = V (d + 1) 233 28 [(2, 311), (9, 0), (9, 0), (9, 0), (9, 0), (9, 0)] [] h' ∧ RR n h' z ∧ FrM h h' ∧ (∀ j, j < k → ld h' 355 j = ld h 355 j) ∧ ∀ j, k ≤ j → j < zKn z → ld h' 355 j = 0
  | 0, k, h, c, hm, k0, hk => by
    refine ⟨h, ?_, c, FrM_rf, fun _ _ => rfl, fun j j0 j1 => absurd j1 (by omega)⟩
    have w := c.k.w
    rw [e233_7, if_pos (F_a311 w), Cl_eq _ (rk_232 c d), if_neg (by omega)]
  | m + 1, k, h, c, hm, k0, hk => by
    have w := c.k.w
    have sb := c.szb
    obtain ⟨c1, f1⟩ := RR_355 c k 0 (Or.inl rfl)
    obtain ⟨h', a1, a2, a3, a4, a5⟩ := who_zero d m (k + 1) _ c1 hm (by omega) (by omega)
    refine ⟨h', ?_, a2, FrM_tr f1 a3, fun j e => (a4 j (by omega)).trans (ld_st_ne (Or.inr (by omega))), fun j j0 j1 => ?_⟩
    · rw [e233_7, if_pos (F_a311 w), Cl_eq _ (rk_232 c d), if_pos (by omega), if_pos (F_a311 w), P_311_72 w, if_pos (W_a355 w), L_a355 w, if_pos (by omega), if_pos (Or.inl rfl), e233_22, show w32 (k + 1) = k + 1 by unfold w32; omega, a1]
    · by_cases y : j = k
      · rw [y, a4 k (by omega), ld_st_eq]
      · exact a5 j (by omega) j1
theorem rk_233 (c : RR n h z) (d : Nat) : OPr n h z (d + 2) 233 [(2, 311)] 0 (zWho z) n z := by
  obtain ⟨c0, f0⟩ := RR_0 c 0
  have w := c.k.w
  have sb := c.szb
  have kb := c.kbb
  have t1 := c.k.K.2.1
  have hm : zKn z ≤ z.sz ∧ 0 ≤ zKn z := by unfold zKn; split <;> omega
  obtain ⟨h1, a1, c1, f1, -, l1⟩ := who_zero (d + 1) (zKn z).toNat 0 _ c0 hm (by decide) (by omega)
  have w1 := c1.k.w
  have b0 : ∀ p : Int, bt 0 p = 0 := fun p => by unfold bt shr32; rw [Int.zero_ediv]; decide
  obtain ⟨h2, a2, c2, f2, -, fw, fu⟩ := who_ask (n := n) (z := z) (d + 2) (zKn z).toNat (0, 0, 0) h1 c1 (by omega) ⟨by decide, by decide⟩ ⟨by decide, by decide⟩ ⟨by decide, by decide⟩ (fun p p0 p1 => by rw [l1 p p0 (by omega)]; exact b0 p)
  have w2 := c2.k.w
  rw [show (((zKn z).toNat : Nat) : Int) = zKn z by omega] at fw fu a2
  have key : ∀ (m : Nat) (k a : Int), 0 ≤ k → k + m = z.T 1 0 → (0 ≤ a ∧ a < 1024) → V (d + 2) 233 80 [(2, 311), (0, a), (0, k), (9, 0), (9, 0), (9, 0)] [] h2 = some ((0, fld (fun s a => if qFit (askf z.sk z.sa (zKn z).toNat (0, 0, 0)).2.1 (askf z.sk z.sa (zKn z).toNat (0, 0, 0)).2.2 (sFace z.T z.S s) = true then or32 a (shl32 1 s) else a) m k a), h2) := by
    intro m
    induction m with
    | zero =>
      intro k a k0 hk ha
      rw [e233_80, if_pos (F_a311 w2), P_311_3 w2, if_pos (F_a313 w2), L_a313 w2, if_pos (by decide), rt1 c2.k.1, if_neg (by omega), e233_192]
      rfl
    | succ m ih =>
      intro k a k0 hk ha
      have ff := who_fit c2 a k (x := sFace z.T z.S k) (d + 1) hm (zKn z).toNat 0 1 (by decide) (by omega)
      unfold fld
      rw [e233_80, if_pos (F_a311 w2), P_311_3 w2, if_pos (F_a313 w2), L_a313 w2, if_pos (by decide), rt1 c2.k.1, if_pos (by omega), e233_90, if_pos (F_a311 w2), Cl_eq _ (rk_205 c2.k c2.iv k d), e233_99, ff, e233_171, fit_any (sFace_r c2.k.K k) c2 hm fw fu]
      have bff : ¬ (false = true) := by decide
      have wk : w32 (k + 1) = k + 1 := by unfold w32; omega
      cases anyf (qNo h2 z (sFace z.T z.S k)) (zKn z).toNat 0 with
      | true => rw [if_pos rfl, if_pos rfl, e233_183, e233_184, wk, or32_00 (by unfold I32; omega), if_neg (by decide)]; exact ih _ _ (by omega) (by omega) ha
      | false => rw [if_neg bff, if_neg (by decide), e233_184, wk, if_pos (show (!false) = true from rfl)]; exact ih _ _ (by omega) (by omega) (bit_or ha ⟨k0, by omega⟩).1
  refine ⟨h2, ?_, c2, FrM_tr f0 (FrM_tr f1 f2)⟩
  rw [ce_233, e233_0, if_pos (W_a311 w), a1, e233_28, if_pos (F_a311 w1), Cl_eq _ (rk_232 c1 (d + 1)), show w32 (zKn z - 1) = zKn z - 1 by unfold w32; omega, a2, e233_76, key (z.T 1 0).toNat 0 0 (by decide) (by omega) ⟨by decide, by decide⟩]
  rfl
end WO
