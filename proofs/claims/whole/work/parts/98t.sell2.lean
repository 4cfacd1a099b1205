/-! layer 2: the plain program: an auction asked for, a sale -/
section SA2
variable {h h' : Hp} {z : Zt} {n : Int}
theorem rk_216 (c : RR n h z) (p : Int) (d : Nat) : C (d + 1) 216 [(2, 311), (0, p)] h = some ((0, bI (qSell z p)), h) := by
  have w := c.k.w
  have t2 := c.k.K.2.2.1
  unfold qSell
  have e30 : V (d + 1) 216 30 [(9, 0), (9, 0)] [] h = some ((0, 0), h) := by rw [e216_30, e216_31, if_pos (by decide)]
  rw [ce_216, e216_0, if_pos (F_a311 w), Cl_eq _ (rk_182 c.k.1 p d)]
  cases hq : qPie z.T p with
  | false => rw [if_pos bI_f, e30]; rfl
  | true =>
    have hp := qPie_iff.mp hq
    have e9 := rs9 c.k hp
    rw [show (10 : Int) * 0 + p = p by omega] at e9
    have own := c.iv.2.2.2.2.2.2.2 p hp.1 hp.2
    have e17 : V (d + 1) 216 17 [(2, 311), (0, p)] [] h = if z.S 9 p < 0 then some ((0, 0), h) else some ((0, 1), h) := by
      rw [e216_17, if_pos (F_a311 w), P_311_44 w, if_pos (F_a341 w), L_a341 w, if_pos (by omega), e9, e30, e216_26, e216_31, if_pos (show (1 : Int) = 0 ∨ (1 : Int) = 1 by decide)]
    rw [if_neg (by decide), if_pos (F_a311 w), Cl_eq _ (rk_185 c.k hp d), Bool.true_and]
    cases hs : qSit z.T (z.S 9 p) with
    | true =>
      have hr := qSit_iff.mp hs
      have hd : qFull z.T z.S p = true := by
        unfold qFull
        rcases own with o | o
        · omega
        · exact decide_eq_true o.1
      rw [hd, if_neg (by decide), e17, if_neg (by omega)]; rfl
    | false =>
      have hn : z.S 9 p < 0 := by
        rcases own with o | o
        · omega
        · rcases o.2 with o | o
          · omega
          · have := qSit_iff.mpr o; rw [hs] at this; cases this
      cases qFull z.T z.S p with
      | false => rw [if_pos bI_f, e30]; rfl
      | true => rw [if_neg (by decide), e17, if_pos hn]; rfl
theorem rk_217 (c : RR n h z) (p x : Int) (d : Nat) : OPr n h z (d + 8) 217 [(2, 311), (0, p), (0, x)] 0 (zAuction p x z) n z := by
  obtain ⟨c0, f0⟩ := RR_0 c 0
  have w := c.k.w
  have w0 := c0.k.w
  unfold zAuction
  have e0 : C (d + 8) 217 [(2, 311), (0, p), (0, x)] h = if bI (qSell z p) = 0 then some ((0, -1), st h 311 0 0) else if x < 0 then some ((0, -1), st h 311 0 0) else if 2 < x then some ((0, -1), st h 311 0 0) else V (d + 8) 217 24 [(2, 311), (0, p), (0, x)] [] (st h 311 0 0) := by
    rw [ce_217, e217_0, if_pos (W_a311 w), if_pos (F_a311 w0), Cl_eq _ (rk_216 c0 p (d + 6)), e217_22, e217_13, e217_22]
  generalize st h 311 0 0 = h0 at *
  cases hq : qSell z p with
  | false => rw [if_pos (Or.inl rfl)]; exact ⟨h0, by rw [e0, hq, if_pos bI_f], c0, f0⟩
  | true =>
    rw [hq, if_neg (by decide)] at e0
    by_cases q2 : x < 0
    · rw [if_pos (Or.inr (Or.inl q2))]; exact ⟨h0, by rw [e0, if_pos q2], c0, f0⟩
    by_cases q3 : 2 < x
    · rw [if_pos (Or.inr (Or.inr q3))]; exact ⟨h0, by rw [e0, if_neg q2, if_pos q3], c0, f0⟩
    rw [if_neg (show ¬ (true = false ∨ x < 0 ∨ 2 < x) from fun u => u.elim (fun u => by cases u) (fun u => u.elim q2 q3))]
    rw [if_neg q2, if_neg q3] at e0
    obtain ⟨h1, a1, f1, g1, g2, g3, g4⟩ := rk_215 c0.k c.tx.1 c.iv.2.1 (qSell_p hq).1 d
    have w1 := f1.1
    refine ⟨h1, ?_, RR_U c0 f1, FrM_tr f0 (FrM_U f1)⟩
    rw [e0, e217_24, if_pos (F_a311 w0), Cl_eq _ (RR_plain c0 (d + 7)), if_pos (F_a311 w0), Cl_eq _ a1, e217_33]
    generalize sAuc z.T z.S p 0 = A at *
    show _ = some ((0, if x = 0 then A.1 else if x = 1 then A.2.1 else A.2.2), h1)
    by_cases y0 : x = 0
    · rw [if_pos y0, if_pos y0, if_pos (F_a311 w1), g1]
      by_cases y : A.1 = -2
      · rw [if_pos y, if_pos rfl, e217_45, e217_73, y]
      · have h4 := (g4.resolve_left y).1.1
        rw [if_neg y, if_neg (by omega), e217_50, if_pos (F_a311 w1), g1, if_neg y, e217_73]
    · rw [if_neg y0, if_neg y0, e217_57]
      by_cases y1 : x = 1
      · rw [if_pos y1, if_pos y1, if_pos (F_a311 w1), g2, e217_73]
      · rw [if_neg y1, if_neg y1, e217_69, if_pos (F_a311 w1), g3, e217_73]
theorem IV_sell {T S : Wd} (iv : IV n T S) (hn : n ≤ 600) (hT : TOK T) {p who pr : Int} (ho : 0 ≤ S 9 p ∧ S 9 p < T 1 0) (hp : 0 ≤ p ∧ p < T 2 0) (hw : 0 ≤ who ∧ who < T 1 0) (ne : ¬ S 9 p = who) (h1 : 1 ≤ pr) (h2 : pr ≤ S 6 who) : IV n T (sSell T S p who pr) ∧ sSell T S p who pr = sOwn (up2 (up2 S 6 who (w32 (S 6 who - pr))) 6 (S 9 p) (w32 (up2 S 6 who (w32 (S 6 who - pr)) 6 (S 9 p) + pr))) p who := by
  have t1 := hT.2.1
  have dn : S 8 p = tSize T p := by
    rcases iv.2.2.2.2.2.2.2 p hp.1 hp.2 with o | o
    · omega
    · exact o.1
  have hsit : qSit T (S 9 p) = true := qSit_iff.mpr ho
  obtain ⟨i1, i2, i3, i⟩ := id iv
  have b1 := i2 (S 9 p) ho.1 (by omega)
  have b2 := i2 who hw.1 (by omega)
  have s1 := SUM_le i2 (s := S 9 p) ⟨ho.1, by omega⟩
  have s2 := SUM_le i2 (s := who) ⟨hw.1, by omega⟩
  have w1 : w32 (S 6 (S 9 p) + pr) = S 6 (S 9 p) + pr := by unfold w32; omega
  have w2 : w32 (S 6 who - pr) = S 6 who - pr := by unfold w32; omega
  have e1 : ∀ v, up2 S 6 (S 9 p) v 6 who = S 6 who := fun v => by
    show (if (6 : Nat) = 6 ∧ who = S 9 p then v else S 6 who) = _
    rw [if_neg (fun u => ne u.2.symm)]
  have e2 : ∀ v, up2 S 6 who v 6 (S 9 p) = S 6 (S 9 p) := fun v => by
    show (if (6 : Nat) = 6 ∧ S 9 p = who then v else S 6 (S 9 p)) = _
    rw [if_neg (fun u => ne u.2)]
  have eS : sSell T S p who pr = sOwn (up2 (up2 S 6 (S 9 p) (S 6 (S 9 p) + pr)) 6 who (S 6 who - pr)) p who := by
    unfold sSell
    rw [if_pos hsit, w1]
    dsimp only
    rw [e1, w2]
  have comm : up2 (up2 S 6 (S 9 p) (S 6 (S 9 p) + pr)) 6 who (S 6 who - pr) = up2 (up2 S 6 who (S 6 who - pr)) 6 (S 9 p) (S 6 (S 9 p) + pr) := by
    funext f j
    unfold up2
    by_cases z1 : f = 6 ∧ j = who
    · rw [if_pos z1, if_neg (fun u => ne (u.2.symm.trans z1.2)), if_pos z1]
    · rw [if_neg z1]
      by_cases z2 : f = 6 ∧ j = S 9 p
      · rw [if_pos z2, if_pos z2]
      · rw [if_neg z2, if_neg z2, if_neg z1]
  refine ⟨?_, by rw [eS, w2, e2, w1, comm]⟩
  rw [eS]
  have iv3 : IV n T (up2 (up2 S 6 (S 9 p) (S 6 (S 9 p) + pr)) 6 who (S 6 who - pr)) := by
    refine ⟨i1, fun s a b => ?_, ?_, i⟩
    · show 0 ≤ (if (6 : Nat) = 6 ∧ s = who then S 6 who - pr else if (6 : Nat) = 6 ∧ s = S 9 p then S 6 (S 9 p) + pr else S 6 s)
      split
      · omega
      · split
        · omega
        · exact i2 s a b
    · rw [SUM_up ⟨hw.1, by omega⟩, SUM_up ⟨ho.1, by omega⟩, e1]; omega
  exact IV_own iv3 dn (Or.inr hw)
theorem rk_219 (c : RR n h z) (p : Int) (d : Nat) : OPr n h z (d + 8) 219 [(2, 311), (0, p)] 0 (zSell p z).1 n (zSell p z).2 := by
  obtain ⟨c0, f0⟩ := RR_0 c 0
  have w := c.k.w
  have w0 := c0.k.w
  have hT := c.k.K
  have t1 := hT.2.1
  have t2 := hT.2.2.1
  unfold zSell
  have e0 : C (d + 8) 219 [(2, 311), (0, p)] h = if bI (qSell z p) = 0 then some ((0, -1), st h 311 0 0) else V (d + 8) 219 15 [(2, 311), (0, p)] [] (st h 311 0 0) := by
    rw [ce_219, e219_0, if_pos (W_a311 w), if_pos (F_a311 w0), Cl_eq _ (rk_216 c0 p (d + 6)), e219_13]
  generalize st h 311 0 0 = h0 at *
  cases hq : qSell z p with
  | false => rw [if_pos rfl]; exact ⟨h0, by rw [e0, hq, if_pos bI_f], c0, f0⟩
  | true =>
    rw [hq, if_neg (by decide)] at e0
    rw [if_neg (by decide)]
    obtain ⟨hp, hown⟩ := qSell_p hq
    have ho := qSit_iff.mp hown
    obtain ⟨h1, a1, f1, g1, g2, g3, g4⟩ := rk_215 c0.k c.tx.1 c.iv.2.1 hp d
    have c1 := RR_U c0 f1
    have w1 := f1.1
    generalize sAuc z.T z.S p 0 = A at *
    dsimp only
    rw [e219_15, if_pos (F_a311 w0), Cl_eq _ (RR_plain c0 (d + 7)), if_pos (F_a311 w0), Cl_eq _ a1, e219_24, if_pos (F_a311 w1), g1] at e0
    by_cases y : A.1 = -2
    · have nq : qSit z.T A.1 = false := by
        cases hq : qSit z.T A.1 with
        | false => rfl
        | true => have := qSit_iff.mp hq; omega
      rw [if_pos y, if_pos rfl] at e0
      rw [if_pos nq]
      exact ⟨h1, e0, c1, FrM_tr f0 (FrM_U f1)⟩
    · obtain ⟨⟨hw, ne⟩, hp1, hp2⟩ := g4.resolve_left y
      have wq : qSit z.T A.1 = true := qSit_iff.mpr hw
      rw [if_neg y, if_neg (by omega)] at e0
      rw [if_neg y] at g1
      rw [if_neg (show ¬ qSit z.T A.1 = false by rw [wq]; decide)]
      obtain ⟨h2, a2, c2, f2, x2⟩ := rk_218 c1 (d + 6)
      have w2 := c2.k.w
      have k2 : RK h2 0 z.T z.S := c2.k
      have g61 : ld h2 311 61 = A.1 := (x2 311 61 (by unfold EX; omega)).trans g1
      have g62 : ld h2 311 62 = A.2.1 := (x2 311 62 (by unfold EX; omega)).trans g2
      obtain ⟨iv5, eS⟩ := IV_sell c.iv c.nb.2 hT ho hp hw ne hp1 hp2
      rw [eS] at iv5 ⊢
      have e6 := rs6 k2 hw
      obtain ⟨r3, f3⟩ := rk_u6 k2 hw (v := w32 (z.S 6 A.1 - A.2.1)) (w32_I _)
      rw [show (5 : Int) * 0 + A.1 = A.1 by omega] at e6 r3 f3
      have w3 := r3.w
      have e63 := rs6 r3 ho
      have e93 := rs9 r3 hp
      obtain ⟨r4, f4⟩ := rk_u6 r3 ho (v := w32 (up2 z.S 6 A.1 (w32 (z.S 6 A.1 - A.2.1)) 6 (z.S 9 p) + A.2.1)) (w32_I _)
      rw [show (5 : Int) * 0 + z.S 9 p = z.S 9 p by omega] at e63 r4 f4
      rw [show (10 : Int) * 0 + p = p by omega] at e93
      have e93 : ld (st h2 338 A.1 (w32 (z.S 6 A.1 - A.2.1))) 341 p = z.S 9 p := e93
      have w4 := r4.w
      have h361 : ld (st h2 338 A.1 (w32 (z.S 6 A.1 - A.2.1))) 311 62 = A.2.1 := (ld_st_ne (Or.inl (by decide))).trans g62
      have h461 : ld (st (st h2 338 A.1 (w32 (z.S 6 A.1 - A.2.1))) 338 (z.S 9 p) (w32 (up2 z.S 6 A.1 (w32 (z.S 6 A.1 - A.2.1)) 6 (z.S 9 p) + A.2.1))) 311 61 = A.1 := (ld_st_ne (Or.inl (by decide))).trans ((ld_st_ne (Or.inl (by decide))).trans g61)
      have h462 : ld (st (st h2 338 A.1 (w32 (z.S 6 A.1 - A.2.1))) 338 (z.S 9 p) (w32 (up2 z.S 6 A.1 (w32 (z.S 6 A.1 - A.2.1)) 6 (z.S 9 p) + A.2.1))) 311 62 = A.2.1 := (ld_st_ne (Or.inl (by decide))).trans h361
      have e35 : V (d + 8) 219 35 [(2, 311), (0, p)] [] h1 = V (d + 8) 219 73 [(2, 311), (0, p)] [] (st (st h2 338 A.1 (w32 (z.S 6 A.1 - A.2.1))) 338 (z.S 9 p) (w32 (up2 z.S 6 A.1 (w32 (z.S 6 A.1 - A.2.1)) 6 (z.S 9 p) + A.2.1))) := by
        rw [e219_35, if_pos (F_a311 w1), Cl_eq _ a2, if_pos (F_a311 w2), if_pos (F_a311 w2), P_311_41 w2, if_pos (F_a338 w2), g61, L_a338 w2, if_pos (by omega), if_pos (F_a311 w2), if_pos (W_a338 w2), if_pos (by omega), e6, g62, e219_55, if_pos (F_a311 w3), if_pos (F_a311 w3), P_311_44 w3, if_pos (F_a341 w3), L_a341 w3, if_pos (by omega), e93, P_311_41 w3, if_pos (F_a338 w3), L_a338 w3, if_pos (by omega), if_pos (F_a311 w3), if_pos (W_a338 w3), if_pos (by omega), e63, h361]
      generalize st (st h2 338 A.1 (w32 (z.S 6 A.1 - A.2.1))) 338 (z.S 9 p) (w32 (up2 z.S 6 A.1 (w32 (z.S 6 A.1 - A.2.1)) 6 (z.S 9 p) + A.2.1)) = h4 at *
      obtain ⟨h5, a5, f5, r5⟩ := rk_187 r4 c.iv.2.2.2.1 hp (x := A.1) (by omega) (d + 7)
      have w5' := r5.w
      have fA := FrA_tr f3 (FrA_tr f4 f5)
      have h562 : ld h5 311 62 = A.2.1 := (f5.2.2 311 62 (by decide) (by decide) (by decide) (by unfold inA; omega)).trans h462
      refine ⟨h5, ?_, RR_gen c2 w5' (fun y j e1 e2 => fA.2.2 y j (by unfold rz at e1; omega) (by unfold rz at e1; omega) (by unfold rz at e1; omega) e2) r5 iv5 (sOwn_0 _ _ _ _) ⟨Int.le_refl _, c.nb.2⟩, FrM_tr f0 (FrM_tr (FrM_U f1) (FrM_tr f2 (FrM_A fA)))⟩
      rw [e0, e35, e219_73, if_pos (F_a311 w4), if_pos (F_a311 w4), h461, Cl_eq _ a5, e219_83, if_pos (F_a311 w5'), h562]
end SA2
