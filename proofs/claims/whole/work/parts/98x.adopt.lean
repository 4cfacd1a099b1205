/-! layer 2: the plain program: what is left over finds owners -/
section AD
variable {h h' : Hp} {z : Zt} {n : Int}
theorem mtk_r {T S : Wd} (hT : TOK T) : ∀ (m : Nat) (p s q : Int), (0 ≤ s ∧ s < 32) → (m : Int) ≤ 50 → mtk T S m p s q = -2 ∨ ((0 ≤ mtk T S m p s q ∧ mtk T S m p s q < T 1 0) ∧ S 9 q = -2)
  | 0, _, _, _, _, _ => Or.inl rfl
  | m + 1, p, s, q, hs, hm => by
    have hL : sLst T S m p s = -2 ∨ ((0 ≤ sLst T S m p s ∧ sLst T S m p s < 5) ∧ mbit T S p s (sLst T S m p s) = true) := by
      unfold sLst
      dsimp only
      rcases fnd_rng (f := fun i => mbit T S p s i && decide (w32 (1 + mst T S m (p + 1) (or32 s (shl32 1 i))) = mst T S (m + 1) p s)) 5 0 with u | ⟨q1, q2, q3⟩
      · rw [u]; exact Or.inl rfl
      · rw [if_neg (by omega)]
        rw [Bool.and_eq_true] at q3
        exact Or.inr ⟨⟨q1, by omega⟩, q3.1⟩
    unfold mtk
    by_cases y : q = p
    · rw [if_pos y]
      rcases hL with u | ⟨u1, u2⟩
      · exact Or.inl u
      · have := (mbit_q hT hs u1).mp u2
        exact Or.inr ⟨⟨u1.1, this.2.1⟩, by rw [y]; exact this.1⟩
    · rw [if_neg y]
      refine mtk_r hT m (p + 1) _ q ?_ (by omega)
      rcases hL with u | ⟨u1, u2⟩
      · rw [if_pos u]; exact hs
      · rw [if_neg (by omega)]; exact or_b hs u1
theorem rk_223 (c : RR n h z) (d : Nat) : ∃ h', C (d + 11) 223 [(2, 311)] h = some ((9, 0), h') ∧ FT n z 0 h h' ∧ ld h' 311 66 = mst z.T z.S (z.T 2 0).toNat 0 0 ∧ ∀ q, 0 ≤ q → q < z.T 2 0 → ld h' 351 q = enc (mtk z.T z.S (z.T 2 0).toNat 0 0 q) := by
  have w := c.k.w
  have t2 := c.k.K.2.2.1
  have f0 : FT n z 0 h (st h 311 66 (-1)) := FT_66 c 0 (-1)
  have hN : z.T 2 0 = (((z.T 2 0).toNat : Nat) : Int) := by omega
  obtain ⟨h', a1, a2, a3, -⟩ := rk_222 hN (z.T 2 0).toNat 0 0 0 _ (d + (10 - (z.T 2 0).toNat)) f0.1 (by decide) (by omega) ⟨by decide, by decide⟩ ⟨by decide, by decide⟩
  rw [show d + (10 - (z.T 2 0).toNat) + (z.T 2 0).toNat = d + 10 by omega] at a1
  have mb := mst_b (T := z.T) (S := z.S) (z.T 2 0).toNat 0 0 (by omega)
  obtain ⟨b1, b2, b3⟩ := a3 (by rw [ld_st_eq]; omega)
  refine ⟨h', ?_, FT_tr f0 a2 (Int.le_refl _), by omega, fun q q0 q1 => b3 q q0 (by omega)⟩
  rw [ce_223, e223_0, if_pos (W_a311 w), if_pos (F_a311 f0.1.k.w), Cl_eq _ a1, e223_12]
theorem rk_224 (c : RR n h z) (p : Int) (d : Nat) : OPr n h z (d + 12) 224 [(2, 311), (0, p)] 0 (zMatch p z) n z := by
  obtain ⟨c0, f0⟩ := RR_0 c 0
  have w := c.k.w
  have w0 := c0.k.w
  have hT := c.k.K
  have t2 := hT.2.2.1
  unfold zMatch
  have e24 : ∀ h1, V (d + 12) 224 24 [(9, 0), (9, 0)] [] h1 = some ((0, -1), h1) := fun h1 => by rw [e224_24]
  have e0 : C (d + 12) 224 [(2, 311), (0, p)] h = if bI (qPie z.T p) = 0 then V (d + 12) 224 24 [(9, 0), (9, 0)] [] (st h 311 0 0) else V (d + 12) 224 13 [(2, 311), (0, p)] [] (st h 311 0 0) := by
    rw [ce_224, e224_0, if_pos (W_a311 w), if_pos (F_a311 w0), Cl_eq _ (rk_182 c0.k.1 p (d + 11))]
  cases hq : qPie z.T p with
  | false => rw [if_pos (Or.inl rfl)]; exact ⟨_, by rw [e0, hq, if_pos bI_f, e24], c0, f0⟩
  | true =>
    have hp := qPie_iff.mp hq
    have e9 : ld (st h 311 0 0) 341 p = z.S 9 p := by
      have := rs9 c0.k hp
      rw [show 10 * (0 : Int) + p = p by omega] at this; exact this
    rw [hq, if_neg (by decide), e224_13, if_pos (F_a311 w0), P_311_44 w0, if_pos (F_a341 w0), L_a341 w0, if_pos (by omega), e9] at e0
    by_cases y : z.S 9 p = -2
    · rw [if_pos y] at e0
      rw [if_neg (fun u => u.elim (fun u => by cases u) (fun u => u y))]
      obtain ⟨h1, a1, a2, a3, a4⟩ := rk_223 c0 d
      have w1 := a2.1.k.w
      have hv := a4 p hp.1 hp.2
      have hr := mtk_r (S := z.S) hT (z.T 2 0).toNat 0 0 p ⟨by decide, by decide⟩ (by omega)
      refine ⟨h1, ?_, a2.1, FrM_tr f0 a2.2.1⟩
      rw [e0, e224_26, if_pos (F_a311 w0), Cl_eq _ a1, if_pos (F_a311 w1), P_311_65 w1, if_pos (F_a351 w1), L_a351 w1, if_pos (by omega), hv]
      rcases hr with u | ⟨u, -⟩
      · rw [u, if_pos (show enc (-2) = -1 from rfl), e224_40, e224_51]
      · have en : enc (mtk z.T z.S (z.T 2 0).toNat 0 0 p) = mtk z.T z.S (z.T 2 0).toNat 0 0 p := by unfold enc; rw [if_neg (by omega)]
        rw [en, if_neg (by omega), e224_45, if_pos (F_a311 w1), P_311_65 w1, if_pos (F_a351 w1), L_a351 w1, if_pos (by omega), hv, en, e224_51]
    · rw [if_neg y] at e0
      rw [if_pos (Or.inr y)]
      exact ⟨_, by rw [e0, e24], c0, f0⟩
theorem sOwn_8 (S : Wd) (p x q : Int) : sOwn S p x 8 q = S 8 q := by unfold sOwn; split <;> rfl
theorem sOwn_00 (S : Wd) (p x : Int) : sOwn S p x 0 0 = S 0 0 := by unfold sOwn; split <;> rfl
theorem ad_loop {S0 : Wd} {B : Int} (hB : ∀ q, 0 ≤ q → q < z.T 2 0 → (mtk z.T S0 (z.T 2 0).toNat 0 0 q ≠ -2 → S0 9 q = -2)) (hr : ∀ q, mtk z.T S0 (z.T 2 0).toNat 0 0 q = -2 ∨ ((0 ≤ mtk z.T S0 (z.T 2 0).toNat 0 0 q ∧ mtk z.T S0 (z.T 2 0).toNat 0 0 q < z.T 1 0) ∧ S0 9 q = -2)) (d : Nat) : ∀ (m : Nat) (k : Int) (S : Wd) (h1 : Hp), RK h1 0 z.T S → IV n z.T S → (∀ q, S 8 q = S0 8 q) → OWN z.T S0 → 0 ≤ k → k + m = z.T 2 0 → ld h1 311 66 = B → (∀ q, 0 ≤ q → q < z.T 2 0 → ld h1 351 q = enc (mtk z.T S0 (z.T 2 0).toNat 0 0 q)) → ∃ h', V (d + 1) 225 24 [(2, 311), (0, k)] [] h1 = some ((0, B), h') ∧ RK h' 0 z.T (fldS (adK z.T S0) m k S) ∧ IV n z.T (fldS (adK z.T S0) m k S) ∧ FrA 0 h1 h' ∧ fldS (adK z.T S0) m k S 0 0 = S 0 0
  | 0, k, S, h1, r, iv, e8, ow, k0, hk, e66, e351 => by
    have w := r.w
    refine ⟨h1, ?_, r, iv, FrA_rf w, rfl⟩
    rw [e225_24, if_pos (F_a311 w), P_311_3 w, if_pos (F_a313 w), L_a313 w, if_pos (by decide), rt2 r.1, if_neg (by omega), e225_62, if_pos (F_a311 w), e66]
  | m + 1, k, S, h1, r, iv, e8, ow, k0, hk, e66, e351 => by
    have w := r.w
    have t1 := r.K.2.1
    have t2 := r.K.2.2.1
    have hp : 0 ≤ k ∧ k < z.T 2 0 := by omega
    have wk : w32 (k + 1) = k + 1 := by unfold w32; omega
    have hv := e351 k hp.1 hp.2
    have e24 : V (d + 1) 225 24 [(2, 311), (0, k)] [] h1 = if ld h1 351 k = -1 then V (d + 1) 225 56 [(2, 311), (0, k)] [] h1 else V (d + 1) 225 44 [(2, 311), (0, k)] [] h1 := by
      rw [e225_24, if_pos (F_a311 w), P_311_3 w, if_pos (F_a313 w), L_a313 w, if_pos (by decide), rt2 r.1, if_pos hp.2, e225_34, if_pos (F_a311 w), P_311_65 w, if_pos (F_a351 w), L_a351 w, if_pos (by omega)]
    unfold fldS
    rw [e24, hv]
    rcases hr k with u | ⟨u, u9⟩
    · have ea : adK z.T S0 k S = S := by
        unfold adK
        rw [u, if_neg (fun v => by have := qSit_iff.mp v; omega)]
      rw [ea, u, if_pos (show enc (-2) = -1 from rfl), e225_56, wk]
      exact ad_loop hB hr d m (k + 1) S h1 r iv e8 ow (by omega) (by omega) e66 e351
    · have en : enc (mtk z.T S0 (z.T 2 0).toNat 0 0 k) = mtk z.T S0 (z.T 2 0).toNat 0 0 k := by unfold enc; rw [if_neg (by omega)]
      have ea : adK z.T S0 k S = sOwn S k (mtk z.T S0 (z.T 2 0).toNat 0 0 k) := by
        unfold adK
        rw [if_pos (qSit_iff.mpr u)]
      obtain ⟨h2, a2, f2, r2⟩ := rk_187 r iv.2.2.2.1 hp (x := mtk z.T S0 (z.T 2 0).toNat 0 0 k) (by omega) d
      have dn : S 8 k = tSize z.T k := by
        rw [e8]
        rcases ow k hp.1 hp.2 with o | ⟨o, -⟩
        · omega
        · exact o
      have g : ∀ x j, ¬ inA 0 x j → x ≠ 348 → x ≠ 349 → ¬ (x = 311 ∧ j = 57) → ld h2 x j = ld h1 x j := fun x j q1 q2 q3 q4 => f2.2.2 x j q2 q3 q4 q1
      obtain ⟨h', b1, b2, b3, b4, b5⟩ := ad_loop hB hr d m (k + 1) _ h2 r2 (IV_own iv dn (Or.inr u)) (fun q => (sOwn_8 _ _ _ _).trans (e8 q)) ow (by omega) (by omega) ((g 311 66 (by unfold inA; omega) (by decide) (by decide) (by decide)).trans e66) (fun q q0 q1 => (g 351 q (by unfold inA; omega) (by decide) (by decide) (by omega)).trans (e351 q q0 q1))
      rw [ea, en, if_neg (by omega), e225_44, if_pos (F_a311 w), if_pos (F_a311 w), P_311_65 w, if_pos (F_a351 w), L_a351 w, if_pos (by omega), hv, en, Cl_eq _ a2, e225_56, wk]
      exact ⟨h', b1, b2, b3, FrA_tr f2 b4, b5.trans (sOwn_00 _ _ _)⟩
theorem rk_225 (c : RR n h z) (d : Nat) : OPr n h z (d + 12) 225 [(2, 311)] 0 (zAdopt z).1 n (zAdopt z).2 := by
  obtain ⟨c0, f0⟩ := RR_0 c 0
  have w := c.k.w
  have w0 := c0.k.w
  have hT := c.k.K
  have t2 := hT.2.2.1
  obtain ⟨h1, a1, a2, a3, a4⟩ := rk_223 c0 d
  have w1 := a2.1.k.w
  have e0 : C (d + 12) 225 [(2, 311)] h = if ld h1 311 66 = 0 then some ((0, 0), h1) else V (d + 12) 225 18 [(2, 311), (9, 0)] [] h1 := by
    rw [ce_225, e225_0, if_pos (W_a311 w), if_pos (F_a311 w0), Cl_eq _ a1, e225_9, if_pos (F_a311 w1)]
  unfold zAdopt
  by_cases q : mst z.T z.S (z.T 2 0).toNat 0 0 = 0
  · rw [if_pos q]
    exact ⟨h1, by rw [e0, if_pos (a3.trans q)], a2.1, FrM_tr f0 a2.2.1⟩
  · rw [if_neg q]
    obtain ⟨h2, b1, b2, b3, b4⟩ := rk_218 a2.1 (d + 10)
    have w2 := b2.k.w
    have hr := fun q => mtk_r (S := z.S) hT (z.T 2 0).toNat 0 0 q ⟨by decide, by decide⟩ (by omega)
    obtain ⟨h3, x1, x2, x3, x4, x5⟩ := ad_loop (n := n) (z := z) (S0 := z.S) (B := mst z.T z.S (z.T 2 0).toNat 0 0) (fun q _ _ e => ((hr q).resolve_left e).2) hr (d + 11) (z.T 2 0).toNat 0 z.S h2 b2.k c.iv (fun _ => rfl) c.iv.2.2.2.2.2.2.2 (by decide) (by omega) ((b4 311 66 (by unfold EX; omega)).trans a3) (fun q q0 q1 => (b4 351 q (by unfold EX; omega)).trans (a4 q q0 q1))
    refine ⟨h3, ?_, RR_gen b2 x2.w (fun y j e1 e2 => x4.2.2 y j (by unfold rz at e1; omega) (by unfold rz at e1; omega) (by unfold rz at e1; omega) e2) x2 x3 x5 ⟨Int.le_refl _, c.nb.2⟩, FrM_tr f0 (FrM_tr a2.2.1 (FrM_tr b3 (FrM_A x4)))⟩
    rw [e0, if_neg (by omega), e225_18, if_pos (F_a311 w1), Cl_eq _ b1, x1]
end AD
