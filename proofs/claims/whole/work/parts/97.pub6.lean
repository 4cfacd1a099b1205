/-! layer 2: the class's methods: a sale, an adoption -/
section PG
variable {h h' : Hp} {z : Zt}
theorem mtk_b (T S : Wd) : ∀ (m : Nat) (p set q : Int), mtk T S m p set q = -2 ∨ (0 ≤ mtk T S m p set q ∧ mtk T S m p set q < 5)
  | 0, _, _, _ => Or.inl rfl
  | m + 1, p, set, q => by
    unfold mtk
    split
    · exact sLst_b T S m p set
    · exact mtk_b T S m _ _ q
theorem kq_16 (c : CR h z) (p : Int) (d : Nat) : OPc h z (d + 8) 16 [(2, 1), (0, p)] 0 (zSell p z).1 (zSell p z).2 := by
  have w := c.w
  obtain ⟨b0, b1, b2, b3⟩ := cB c
  have t1 := (cTOK c).2.1
  have t2 := (cTOK c).2.2.1
  unfold zSell
  have e0 : C (d + 8) 16 [(2, 1), (0, p)] h = if bI (qSell z p) = 0 then some ((0, -1), h) else V (d + 8) 16 10 [(2, 1), (0, p), (9, 0)] [] h := by
    rw [ce_16, e16_0, if_pos (F_a1 w), Cl_eq _ (kq_17 c p (d + 6))]
  cases hq : qSell z p with
  | false => rw [if_pos rfl]; exact OPc_rf c (by rw [e0, hq, if_pos bI_f])
  | true =>
    rw [hq, if_neg (by decide)] at e0
    rw [if_neg (by decide)]
    obtain ⟨hp, hown⟩ := qSell_p hq
    have ho := qSit_iff.mp hown
    obtain ⟨h1, a1, m, g1, g2, g3⟩ := kq_119 c.ck (by rw [c.S]; exact c.ok) (p := p) (by rw [b2]; exact hp) (d + 2)
    rw [c.T, c.S, auc_f] at g1 g2 g3
    rw [c.S] at m
    obtain ⟨c1, f1⟩ := CR_Mx c m (Or.inr (Or.inl ⟨rfl, rfl⟩)) c.ok c.dok
    have w1 := c1.w
    generalize sAuc z.T z.S p 0 = A at *
    dsimp only
    have e1 : C (d + 8) 16 [(2, 1), (0, p)] h = if bI (qSit z.T A.1) = 0 then some ((0, -2), h1) else V (d + 8) 16 42 [(2, 1), (0, p), (9, 0)] [] h1 := by
      have := kq_67 w1 c1.hb (d + 7) A.1
      rw [c1.T] at this
      rw [e0, e16_10, if_pos (F_a1 w), if_pos (F_a1 w), P_1_12 w, if_pos (F_a291 w), P_1_5 w, Cl_eq _ a1, e16_22, if_pos (F_a1 w1), if_pos (F_a1 w1), P_1_12 w1, if_pos (F_a291 w1), if_pos (c3 c1), g1, Cl_eq _ this, e16_39]
    cases hw : qSit z.T A.1 with
    | false => rw [if_pos rfl]; exact ⟨h1, by rw [e1, hw, if_pos bI_f], c1, f1⟩
    | true =>
      rw [hw, if_neg (by decide)] at e1
      rw [if_neg (by decide)]
      have hA := qSit_iff.mp hw
      obtain ⟨h2, a2, c2, f2, e32, k2⟩ := CR_push c1 (d + 6)
      have w2 := c2.w
      have hp2 : 0 ≤ p ∧ p < ld h2 (ld h2 1 3) 11 := by rw [(cB c2).2.2.1]; exact hp
      have g12 : ld h2 291 1 = A.1 := (k2 _ _ (by decide) (by decide)).trans g1
      have g22 : ld h2 291 2 = A.2.1 := (k2 _ _ (by decide) (by decide)).trans g2
      have s9 : ld h2 (97 + 4) p = z.S 9 p := cS9 c2 hp2
      have ho2 : 0 ≤ z.S 9 p ∧ z.S 9 p < ld h2 (ld h2 1 3) 4 := by rw [(cB c2).2.1]; exact ho
      have s6 : ld h2 (97 + 1) (z.S 9 p) = z.S 6 (z.S 9 p) := cS6 c2 ho2
      have m3 := Md_u6 c2.ck ho2 (w32 (z.S 6 (z.S 9 p) + A.2.1))
      rw [c2.S] at m3
      have ok3 : SOK (up2 z.S 6 (z.S 9 p) (w32 (z.S 6 (z.S 9 p) + A.2.1))) := SOK_up2 c.ok (w32_I _) (by decide)
      obtain ⟨c3', f3⟩ := CR_Md c2 m3 ok3 c.dok
      have w3 := c3'.w
      have g13 : ld (st h2 (97 + 1) (z.S 9 p) (w32 (z.S 6 (z.S 9 p) + A.2.1))) 291 1 = A.1 := (ld_st_ne (Or.inl (by decide))).trans g12
      have g23 : ld (st h2 (97 + 1) (z.S 9 p) (w32 (z.S 6 (z.S 9 p) + A.2.1))) 291 2 = A.2.1 := (ld_st_ne (Or.inl (by decide))).trans g22
      have hA3 : 0 ≤ A.1 ∧ A.1 < ld (st h2 (97 + 1) (z.S 9 p) (w32 (z.S 6 (z.S 9 p) + A.2.1))) (ld (st h2 (97 + 1) (z.S 9 p) (w32 (z.S 6 (z.S 9 p) + A.2.1))) 1 3) 4 := by rw [(cB c3').2.1]; exact hA
      have s63 : ld (st h2 (97 + 1) (z.S 9 p) (w32 (z.S 6 (z.S 9 p) + A.2.1))) (97 + 1) A.1 = up2 z.S 6 (z.S 9 p) (w32 (z.S 6 (z.S 9 p) + A.2.1)) 6 A.1 := cS6 c3' hA3
      have eq67 := kq_67 w2 c2.hb (d + 7) (z.S 9 p)
      rw [c2.T] at eq67
      have eq67 : C (d + 7) 67 [(2, ld h2 1 3), (0, z.S 9 p)] h2 = some ((0, bI true), h2) := by rw [← hown]; exact eq67
      have e2 : V (d + 8) 16 42 [(2, 1), (0, p), (9, 0)] [] h1 = V (d + 8) 16 93 [(2, 1), (0, p), (9, 0)] [] (st h2 (97 + 1) (z.S 9 p) (w32 (z.S 6 (z.S 9 p) + A.2.1))) := by
        rw [e16_42, if_pos (F_a1 w1), if_pos (F_a1 w1), P_1_9 w1, if_pos (F_a121 w1), P_1_5 w1, Cl_eq _ a2, e16_53, if_pos (F_a1 w2), P_1_5 w2, if_pos (F_a97 w2), sfP9 w2 c.ck.2.1, if_pos (sfF4 w2 c.ck.2.1), sfL4 w2 c.ck.2.1, if_pos (by omega), s9, e16_63, if_pos (F_a1 w2), if_pos (c3 c2), Cl_eq _ eq67, if_neg (by decide), e16_74, if_pos (F_a1 w2), P_1_5 w2, if_pos (F_a97 w2), sfP6 w2 c.ck.2.1, if_pos (sfF1 w2 c.ck.2.1), sfL1 w2 c.ck.2.1, if_pos (by omega), if_pos (F_a1 w2), P_1_12 w2, if_pos (F_a291 w2), if_pos (sfW1 w2 c.ck.2.1), if_pos (by omega), s6, g22]
      generalize st h2 (97 + 1) (z.S 9 p) (w32 (z.S 6 (z.S 9 p) + A.2.1)) = h3 at *
      have m4 := Md_u6 c3'.ck hA3 (w32 (up2 z.S 6 (z.S 9 p) (w32 (z.S 6 (z.S 9 p) + A.2.1)) 6 A.1 - A.2.1))
      rw [c3'.S] at m4
      have ok4 : SOK (up2 (up2 z.S 6 (z.S 9 p) (w32 (z.S 6 (z.S 9 p) + A.2.1))) 6 A.1 (w32 (up2 z.S 6 (z.S 9 p) (w32 (z.S 6 (z.S 9 p) + A.2.1)) 6 A.1 - A.2.1))) := SOK_up2 ok3 (w32_I _) (by decide)
      obtain ⟨c4, f4⟩ := CR_Md c3' m4 ok4 c.dok
      have w4 := c4.w
      have g14 : ld (st h3 (97 + 1) A.1 (w32 (up2 z.S 6 (z.S 9 p) (w32 (z.S 6 (z.S 9 p) + A.2.1)) 6 A.1 - A.2.1))) 291 1 = A.1 := (ld_st_ne (Or.inl (by decide))).trans g13
      have g24 : ld (st h3 (97 + 1) A.1 (w32 (up2 z.S 6 (z.S 9 p) (w32 (z.S 6 (z.S 9 p) + A.2.1)) 6 A.1 - A.2.1))) 291 2 = A.2.1 := (ld_st_ne (Or.inl (by decide))).trans g23
      have e3 : V (d + 8) 16 93 [(2, 1), (0, p), (9, 0)] [] h3 = V (d + 8) 16 118 [(2, 1), (0, p), (9, 0)] [] (st h3 (97 + 1) A.1 (w32 (up2 z.S 6 (z.S 9 p) (w32 (z.S 6 (z.S 9 p) + A.2.1)) 6 A.1 - A.2.1))) := by
        rw [e16_93, if_pos (F_a1 w3), P_1_5 w3, if_pos (F_a97 w3), if_pos (F_a1 w3), P_1_12 w3, if_pos (F_a291 w3), sfP6 w3 c.ck.2.1, if_pos (sfF1 w3 c.ck.2.1), sfL1 w3 c.ck.2.1, g13, if_pos (by omega), if_pos (F_a1 w3), if_pos (F_a291 w3), if_pos (sfW1 w3 c.ck.2.1), if_pos (by omega), s63, g23]
      generalize st h3 (97 + 1) A.1 (w32 (up2 z.S 6 (z.S 9 p) (w32 (z.S 6 (z.S 9 p) + A.2.1)) 6 A.1 - A.2.1)) = h4 at *
      obtain ⟨h5, a5, m5⟩ := kq_102 c4.ck (by rw [c4.S]; exact ok4) (p := p) (by rw [(cB c4).2.2.1]; exact hp) (x := A.1) (I32_of (by omega)) (d + 7)
      rw [c4.S] at m5
      have ok5 := SOK_own ok4 (p := p) (x := A.1) (I32_of (by omega)) (I32_of (by omega))
      obtain ⟨c5, f5⟩ := CR_Md c4 m5 ok5 (by unfold DOK; rw [sOwn_0]; exact c.dok)
      have w5 := c5.w
      have g25 : ld h5 291 2 = A.2.1 := (m5.2.2.1 291 2 (scr_if (by decide)) (by decide)).trans g24
      refine ⟨h5, ?_, ?_, FrC_tr f1 (FrC_tr f2 (FrC_tr f3 (FrC_tr f4 f5)))⟩
      · rw [e1, e2, e3, e16_118, if_pos (F_a1 w4), if_pos (F_a1 w4), P_1_12 w4, if_pos (F_a291 w4), P_1_5 w4, if_pos (F_a97 w4), g14, Cl_eq _ a5, e16_133, if_pos (F_a1 w5), P_1_12 w5, if_pos (F_a291 w5), g25]
      · unfold sSell
        rw [if_pos hown]
        exact c5
theorem kq_20 (c : CR h z) (d : Nat) : OPc h z (d + 8) 20 [(2, 1)] 0 (zAdopt z).1 (zAdopt z).2 := by
  have w := c.w
  obtain ⟨b0, b1, b2, b3⟩ := cB c
  have t2 := (cTOK c).2.2.1
  unfold zAdopt
  obtain ⟨h1, a1, m, g1, g2⟩ := kq_121 c.ck (by rw [c.S]; exact c.ok) (d + 5)
  rw [c.T, c.S, b2] at g1 g2
  rw [c.S] at m
  obtain ⟨c1, f1⟩ := CR_Mx c m (Or.inr (Or.inr ⟨rfl, rfl⟩)) c.ok c.dok
  have w1 := c1.w
  have e0 : C (d + 8) 20 [(2, 1)] h = if mst z.T z.S (z.T 2 0).toNat 0 0 = 0 then some ((0, 0), h1) else V (d + 8) 20 23 [(2, 1), (9, 0)] [] h1 := by
    rw [ce_20, e20_0, if_pos (F_a1 w), if_pos (F_a1 w), P_1_13 w, if_pos (F_a293 w), P_1_5 w, Cl_eq _ a1, e20_11, if_pos (F_a1 w1), P_1_13 w1, if_pos (F_a293 w1), g1]
  by_cases q : mst z.T z.S (z.T 2 0).toNat 0 0 = 0
  · rw [if_pos q]
    exact ⟨h1, by rw [e0, if_pos q], c1, f1⟩
  rw [if_neg q] at e0 ⊢
  obtain ⟨h2, a2, c2, f2, e32, k2⟩ := CR_push c1 (d + 6)
  have w2 := c2.w
  have key : ∀ (n : Nat) (k : Int) (h : Hp) (S : Wd) (zz : Zt), CR h (zz.setS S) → zz.T = z.T → 0 ≤ k → k + n = z.T 2 0 → ld h 293 3 = mst z.T z.S (z.T 2 0).toNat 0 0 → (∀ q, 0 ≤ q → q < z.T 2 0 → ld h 307 q = mtk z.T z.S (z.T 2 0).toNat 0 0 q) → ∃ h', V (d + 8) 20 36 [(2, 1), (0, k)] [] h = some ((0, mst z.T z.S (z.T 2 0).toNat 0 0), h') ∧ CR h' (zz.setS (fldS (adK z.T z.S) n k S)) ∧ FrC h h' := by
    intro n
    induction n with
    | zero =>
      intro k h S zz c eT k0 hk g1 g2
      have w := c.w
      have b2 : ld h (ld h 1 3) 11 = z.T 2 0 := (cB c).2.2.1.trans (congrFun (congrFun eT 2) 0)
      refine ⟨h, ?_, c, FrC_rf⟩
      rw [e20_36, if_pos (F_a1 w), if_pos (c3 c), b2, if_neg (by omega), e20_89, if_pos (F_a1 w), P_1_13 w, if_pos (F_a293 w), g1]
    | succ n ih =>
      intro k h S zz c eT k0 hk g1 g2
      have w := c.w
      have b2 : ld h (ld h 1 3) 11 = z.T 2 0 := (cB c).2.2.1.trans (congrFun (congrFun eT 2) 0)
      have tk := g2 k k0 (by omega)
      have wk1 : w32 (k + 1) = k + 1 := by unfold w32; omega
      have e67 := kq_67 w c.hb (d + 7) (mtk z.T z.S (z.T 2 0).toNat 0 0 k)
      rw [show tC h (ld h 1 3) = z.T from c.T.trans eT] at e67
      rw [e20_36, if_pos (F_a1 w), if_pos (c3 c), b2, if_pos (by omega), e20_47, if_pos (F_a1 w), if_pos (F_a1 w), P_1_13 w, if_pos (F_a293 w), P_293_2 w, if_pos (F_a307 w), L_a307 w, if_pos (by omega), if_pos (c3 c), tk, Cl_eq _ e67]
      show ∃ h', _ ∧ CR h' (zz.setS (fldS (adK z.T z.S) n (k + 1) (adK z.T z.S k S))) ∧ _
      cases hq : qSit z.T (mtk z.T z.S (z.T 2 0).toNat 0 0 k) with
      | false =>
        rw [if_pos bI_f, e20_83, wk1, show adK z.T z.S k S = S by unfold adK; rw [hq]; rfl]
        exact ih (k + 1) h S zz c eT (by omega) (by omega) g1 g2
      | true =>
        have hb := mtk_b z.T z.S (z.T 2 0).toNat 0 0 k
        obtain ⟨h3, a3, m3⟩ := kq_102 c.ck (by rw [c.S]; exact c.ok) (p := k) (by rw [b2]; omega) (x := mtk z.T z.S (z.T 2 0).toNat 0 0 k) (I32_of (by omega)) (d + 7)
        rw [c.S] at m3
        have ok3 := SOK_own c.ok (p := k) (x := mtk z.T z.S (z.T 2 0).toNat 0 0 k) (I32_of (by omega)) (I32_of (by omega))
        obtain ⟨c3', f3⟩ := CR_Md c m3 ok3 (by unfold DOK; rw [sOwn_0]; exact c.dok)
        have w3 := c3'.w
        have fr3 : ∀ a j, 283 ≤ a → ld h3 a j = ld h a j := fun a j e => m3.2.2.1 a j (scr_if (by omega)) (by omega)
        rw [if_neg (by decide), e20_66, if_pos (F_a1 w), if_pos (F_a1 w), P_1_13 w, if_pos (F_a293 w), P_293_2 w, if_pos (F_a307 w), L_a307 w, if_pos (by omega), P_1_5 w, if_pos (F_a97 w), tk, Cl_eq _ a3, e20_83, wk1, show adK z.T z.S k S = sOwn S k (mtk z.T z.S (z.T 2 0).toNat 0 0 k) by unfold adK; rw [hq]; rfl]
        obtain ⟨h', a, c', f⟩ := ih (k + 1) h3 _ zz c3' eT (by omega) (by omega) ((fr3 293 3 (by decide)).trans g1) (fun q q0 q1 => (fr3 307 q (by decide)).trans (g2 q q0 q1))
        exact ⟨h', a, c', FrC_tr f3 f⟩
  obtain ⟨h', a, c', f⟩ := key (z.T 2 0).toNat 0 h2 z.S z.push c2 rfl (by decide) (by omega) ((k2 _ _ (by decide) (by decide)).trans g1) (fun q q0 q1 => (k2 _ _ (by decide) (by decide)).trans (g2 q q0 q1))
  exact ⟨h', by rw [e0, e20_23, if_pos (F_a1 w1), if_pos (F_a1 w1), P_1_9 w1, if_pos (F_a121 w1), P_1_5 w1, Cl_eq _ a2, e20_34, a], c', FrC_tr f1 (FrC_tr f2 f)⟩
end PG
