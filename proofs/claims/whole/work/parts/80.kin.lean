/-! layer 2: kin, heirs -/
section LK
variable {h : Hp} {tp : Int → Int} {b n pl : Int} {T : Wd} {tw hl kn : Int}
theorem nxS (p : PL h tp b n pl T tw hl kn) (d : Nat) : ∃ h1, FrP b h h1 ∧ PL h1 tp b n (adv tp n pl) T tw hl kn ∧ ∀ (A : Hp → Option MR) (B : Int → Hp → Option MR), Cl (d + 8) 40 [(2, 3)] 0 h (fun r1 h1 => if okF h1 3 25 = true then (if okF h1 (ld h1 3 1) 21 = true then (Cl (d + 8) 67 [(2, ld h1 3 1), (0, r1)] 0 h1 (fun r2 h2 => if r2 = (0 : Int) then A h2 else B r1 h2)) else none) else none) = (if nxk (tkn tp n (adv tp n pl)) (tSitr T (wL tp n (adv tp n pl))) = 0 then B (tSitr T (wL tp n (adv tp n pl))) h1 else A (st (st h1 3 7 (nxk (tkn tp n (adv tp n pl)) (tSitr T (wL tp n (adv tp n pl))))) 3 8 (adv tp n pl))) := by
  obtain ⟨h1, f1, l1, a1⟩ := kq_40 p d
  have hb := p.1.2.2.1
  refine ⟨h1, f1, l1, fun A B => ?_⟩
  have w1 := l1.1.1.1
  by_cases q1 : nxk (tkn tp n (adv tp n pl)) (tSitr T (wL tp n (adv tp n pl))) = 0
  · rw [if_pos q1] at a1 ⊢
    have s1 : qSit T (tSitr T (wL tp n (adv tp n pl))) = true := qSit_iff.mpr (sitr_r p.2.2.2.2.2.1 (nxk_0 q1).2)
    rw [Cl_eq _ a1, if_pos (F_a3 w1), l1.1.2.2.2.1, if_pos (bfF0 w1 hb), Cl_eq _ (kq_67 w1 hb (d + 7) _), l1.2.1, s1, if_neg (by decide)]
  · rw [if_neg q1] at a1 ⊢
    obtain ⟨wf, ef⟩ := flt3 l1 (nxk (tkn tp n (adv tp n pl)) (tSitr T (wL tp n (adv tp n pl))))
    rw [Cl_eq _ a1, if_pos (F_a3 wf), ef, if_pos (bfF0 wf hb), Cl_eq _ (qS_1 wf hb (d + 7)), if_pos rfl]
theorem nxF (p : PL h tp b n pl T tw hl kn) (d : Nat) : ∃ h1, FrP b h h1 ∧ PL h1 tp b n (adv tp n pl) T tw hl kn ∧ ∀ (A : Hp → Option MR) (B : Int → Hp → Option MR), Cl (d + 8) 41 [(2, 3)] 0 h (fun r1 h1 => if okF h1 3 25 = true then (if okF h1 (ld h1 3 1) 21 = true then (Cl (d + 8) 66 [(2, ld h1 3 1), (0, r1)] 0 h1 (fun r2 h2 => if r2 = (0 : Int) then A h2 else B r1 h2)) else none) else none) = (if nxk (tkn tp n (adv tp n pl)) (tFeat T (wL tp n (adv tp n pl))) = 0 then B (tFeat T (wL tp n (adv tp n pl))) h1 else A (st (st h1 3 7 (nxk (tkn tp n (adv tp n pl)) (tFeat T (wL tp n (adv tp n pl))))) 3 8 (adv tp n pl))) := by
  obtain ⟨h1, f1, l1, a1⟩ := kq_41 p d
  have hb := p.1.2.2.1
  refine ⟨h1, f1, l1, fun A B => ?_⟩
  have w1 := l1.1.1.1
  by_cases q1 : nxk (tkn tp n (adv tp n pl)) (tFeat T (wL tp n (adv tp n pl))) = 0
  · rw [if_pos q1] at a1 ⊢
    have s1 : qFea T (tFeat T (wL tp n (adv tp n pl))) = true := qFea_iff.mpr (feat_r p.2.2.2.2.2.1 (nxk_0 q1).2)
    rw [Cl_eq _ a1, if_pos (F_a3 w1), l1.1.2.2.2.1, if_pos (bfF0 w1 hb), Cl_eq _ (kq_66 w1 hb (d + 7) _), l1.2.1, s1, if_neg (by decide)]
  · rw [if_neg q1] at a1 ⊢
    obtain ⟨wf, ef⟩ := flt3 l1 (nxk (tkn tp n (adv tp n pl)) (tFeat T (wL tp n (adv tp n pl))))
    rw [Cl_eq _ a1, if_pos (F_a3 wf), ef, if_pos (bfF0 wf hb), Cl_eq _ (qF_1 wf hb (d + 7)), if_pos rfl]
def lnKin (tp : Int → Int) (n : Int) (T : Wd) (tw hl kn pl : Int) : LnR :=
  if ¬ T 3 0 < 3 then .error (2, pl) else
  let p1 := adv tp n pl
  let s := tSitr T (wL tp n p1)
  if ¬ nxk (tkn tp n p1) s = 0 then .error (nxk (tkn tp n p1) s, p1) else
  let p2 := adv tp n p1
  let t := tSitr T (wL tp n p2)
  if ¬ nxk (tkn tp n p2) t = 0 then .error (nxk (tkn tp n p2) t, p2) else
  if s = t then .error (5, p2) else
  let p3 := adv tp n p2
  let f := tFeat T (wL tp n p3)
  if ¬ nxk (tkn tp n p3) f = 0 then .error (nxk (tkn tp n p3) f, p3) else
  .ok (tKin T s t f, tw, hl, kn, adv tp n p3)
theorem TOK_kin (hT : TOK T) (h5 : T 3 0 < 3) (u v x : Int) : TOK (tKin T u v x) := by
  obtain ⟨t0, t1, t2, t3, t4, t5, t6⟩ := hT
  have e3 : tKin T u v x 3 0 = T 3 0 + 1 := rfl
  exact ⟨t0, t1, t2, by rw [e3]; omega, t4, t5, t6⟩
theorem I32_kin (hI : ∀ f i, I32 (T f i)) (h5 : 0 ≤ T 3 0 ∧ T 3 0 < 3) {u v x : Int} (hu : I32 u) (hv : I32 v) (hx : I32 x) : ∀ f i, I32 (tKin T u v x f i) := fun f i => by
  unfold tKin
  split
  · exact I32_of (by omega)
  split
  · exact hu
  split
  · exact hv
  split
  · exact hx
  · exact hI f i
theorem kq_44 (p : PL h tp b n pl T tw hl kn) (d : Nat) : ∃ r h', C (d + 8) 44 [(2, 3)] h = some ((0, r), h') ∧ FrP b h h' ∧ LnA tp b n r h' (lnKin tp n T tw hl kn pl) := by
  obtain ⟨ps, pt, p8, p17, p5, pT, pC, pI, -⟩ := id p
  have w := ps.1.1
  have hb := ps.2.2.1
  have eb := ps.2.2.2.1
  have t15 : ld h b 15 = T 3 0 := congrFun (congrFun pt 3) 0
  unfold lnKin
  rw [ce_44, e44_0, if_pos (F_a3 w), eb, if_pos (bfF0 w hb), t15]
  by_cases q : T 3 0 < 3
  · obtain ⟨h1, f1, l1, a1⟩ := nxS p d
    have w1 := l1.1.1.1
    rw [if_pos q, if_neg (fun z => z q), e44_17, if_pos (F_a3 w), a1]
    dsimp only
    generalize hp1 : adv tp n pl = p1 at *
    by_cases q1 : nxk (tkn tp n p1) (tSitr T (wL tp n p1)) = 0
    · have r1 := sitr_r pT (nxk_0 q1).2
      obtain ⟨h2, f2, l2, a2⟩ := nxS l1 d
      have w2 := l2.1.1.1
      rw [if_pos q1, if_neg (fun y => y q1), e44_35, if_pos (F_a3 w1), a2]
      generalize hp2 : adv tp n p1 = p2 at *
      by_cases q2 : nxk (tkn tp n p2) (tSitr T (wL tp n p2)) = 0
      · have r2 := sitr_r pT (nxk_0 q2).2
        rw [if_pos q2, if_neg (fun y => y q2), e44_53]
        by_cases q3 : tSitr T (wL tp n p1) = tSitr T (wL tp n p2)
        · rw [if_pos q3, if_pos q3, if_pos (F_a3 w2), Cl_eq _ (kq_35 l2.1 5 (d + 7)).1, if_pos (by decide)]
          obtain ⟨g1, g2⟩ := LnA_f l2 5
          exact ⟨0, _, rfl, FrP_tr f1 (FrP_tr f2 g1), g2⟩
        · obtain ⟨h3, f3, l3, a3⟩ := nxF l2 d
          have w3 := l3.1.1.1
          have eb3 := l3.1.2.2.2.1
          rw [if_neg q3, if_neg q3, e44_64, if_pos (F_a3 w2), a3]
          generalize hp3 : adv tp n p2 = p3 at *
          by_cases q4 : nxk (tkn tp n p3) (tFeat T (wL tp n p3)) = 0
          · have r4 := feat_r pT (nxk_0 q4).2
            have t3 : ld h3 b 15 = T 3 0 := congrFun (congrFun l3.2.1 3) 0
            have b1 := pT.1
            have b2 := pT.2.1
            obtain ⟨h4, a4, f4, e4, e48, e417, lw4⟩ := kq_76 w3 hb (by rw [t3]; exact ⟨pT.2.2.2.1.1, q⟩) (tSitr T (wL tp n p1)) (tSitr T (wL tp n p2)) (tFeat T (wL tp n p3)) (d + 7)
            rw [l3.2.1] at e4
            have l4 : PL h4 tp b n p3 (tKin T (tSitr T (wL tp n p1)) (tSitr T (wL tp n p2)) (tFeat T (wL tp n p3))) tw hl kn :=
              PL_bk l3 f4 e4 (e48.trans l3.2.2.1) (e417.trans l3.2.2.2.1) (TOK_kin pT q _ _ _) (CB_of l3.2.2.2.2.2.2.1 lw4) (I32_kin pI ⟨pT.2.2.2.1.1, q⟩ (I32_of (by omega)) (I32_of (by omega)) (I32_of (by omega)))
            obtain ⟨h5, a5, f5, l5⟩ := PL_adv l4 (d + 1)
            have w4 := l4.1.1.1
            rw [if_pos q4, if_neg (fun y => y q4)]
            refine ⟨1, h5, ?_, FrP_tr f1 (FrP_tr f2 (FrP_tr f3 (FrP_tr (FrP_B f4) f5))), rfl, l5⟩
            rw [e44_82, if_pos (F_a3 w3), eb3, if_pos (bfF0 w3 hb), Cl_eq _ a4, e44_92, if_pos (F_a3 w4), P3_0 w4, if_pos (F_a4 w4), Cl_eq _ a5, if_pos (by decide)]
          · rw [if_neg q4, if_pos q4, e44_80, if_pos (by decide)]
            obtain ⟨g1, g2⟩ := LnA_f l3 (nxk (tkn tp n p3) (tFeat T (wL tp n p3)))
            exact ⟨0, _, rfl, FrP_tr f1 (FrP_tr f2 (FrP_tr f3 g1)), g2⟩
      · rw [if_neg q2, if_pos q2, e44_51, if_pos (by decide)]
        obtain ⟨g1, g2⟩ := LnA_f l2 (nxk (tkn tp n p2) (tSitr T (wL tp n p2)))
        exact ⟨0, _, rfl, FrP_tr f1 (FrP_tr f2 g1), g2⟩
    · rw [if_neg q1, if_pos q1, e44_33, if_pos (by decide)]
      obtain ⟨g1, g2⟩ := LnA_f l1 (nxk (tkn tp n p1) (tSitr T (wL tp n p1)))
      exact ⟨0, _, rfl, FrP_tr f1 g1, g2⟩
  · rw [if_neg q, if_pos q, e44_11, if_pos (F_a3 w), Cl_eq _ (kq_35 ps 2 (d + 7)).1, if_pos (by decide)]
    obtain ⟨g1, g2⟩ := LnA_f p 2
    exact ⟨0, _, rfl, g1, g2⟩
/-- an heir -/
def lnHei (tp : Int → Int) (n : Int) (T : Wd) (tw hl kn pl : Int) : LnR :=
  let p1 := adv tp n pl
  let s := tSitr T (wL tp n p1)
  if ¬ nxk (tkn tp n p1) s = 0 then .error (nxk (tkn tp n p1) s, p1) else
  if ¬ T 11 s = -1 then .error (3, p1) else
  let p2 := adv tp n p1
  let t := tSitr T (wL tp n p2)
  if ¬ nxk (tkn tp n p2) t = 0 then .error (nxk (tkn tp n p2) t, p2) else
  if s = t then .error (5, p2) else
  .ok (up2 T 11 s t, tw, hl, kn, adv tp n p2)
theorem TOK_hei (hT : TOK T) {s t : Int} (ht : 0 ≤ t ∧ t < T 1 0) (hst : ¬ s = t) : TOK (up2 T 11 s t) := by
  obtain ⟨t0, t1, t2, t3, t4, t5, t6⟩ := hT
  refine ⟨t0, t1, t2, t3, t4, fun x x0 x1 => ?_, t6⟩
  obtain ⟨a, b⟩ := t5 x x0 x1
  refine ⟨a, ?_⟩
  have e : up2 T 11 s t 11 x = if x = s then t else T 11 x := by simp [up2]
  have e1 : up2 T 11 s t 1 0 = T 1 0 := rfl
  rw [e, e1]
  by_cases q : x = s
  · rw [if_pos q]; right; omega
  · rw [if_neg q]; exact b
theorem I32_up2 (hI : ∀ f i, I32 (T f i)) {f0 : Nat} {s t : Int} (ht : I32 t) : ∀ f i, I32 (up2 T f0 s t f i) := fun f i => by
  unfold up2
  split
  · exact ht
  · exact hI f i
theorem kq_46 (p : PL h tp b n pl T tw hl kn) (d : Nat) : ∃ r h', C (d + 8) 46 [(2, 3)] h = some ((0, r), h') ∧ FrP b h h' ∧ LnA tp b n r h' (lnHei tp n T tw hl kn pl) := by
  obtain ⟨ps, pt, p8, p17, p5, pT, pC, pI, -⟩ := id p
  have w := ps.1.1
  have hb := ps.2.2.1
  unfold lnHei
  obtain ⟨h1, f1, l1, a1⟩ := nxS p d
  have w1 := l1.1.1.1
  have eb1 := l1.1.2.2.2.1
  rw [ce_46, e46_0, if_pos (F_a3 w), a1]
  dsimp only
  generalize hp1 : adv tp n pl = p1 at *
  by_cases q1 : nxk (tkn tp n p1) (tSitr T (wL tp n p1)) = 0
  · have r1 := sitr_r pT (nxk_0 q1).2
    have b4 := pT.2.1
    have n1 : ld h1 b 4 = T 1 0 := congrFun (congrFun l1.2.1 1) 0
    have v1 : ld h1 (b + 8) (tSitr T (wL tp n p1)) = T 11 (tSitr T (wL tp n p1)) := by rw [tC_11 (by rw [n1]; exact r1), l1.2.1]
    rw [if_pos q1, if_neg (fun y => y q1), e46_18, if_pos (F_a3 w1), eb1, if_pos (bfF0 w1 hb), bfP10 w1 hb, if_pos (bfF8 w1 hb), bfL8 w1 hb, if_pos (by omega), v1]
    by_cases q5 : T 11 (tSitr T (wL tp n p1)) = -1
    · obtain ⟨h2, f2, l2, a2⟩ := nxS l1 d
      have w2 := l2.1.1.1
      have eb2 := l2.1.2.2.2.1
      rw [if_pos q5, if_neg (fun y => y q5), e46_37, if_pos (F_a3 w1), a2]
      generalize hp2 : adv tp n p1 = p2 at *
      by_cases q2 : nxk (tkn tp n p2) (tSitr T (wL tp n p2)) = 0
      · have r2 := sitr_r pT (nxk_0 q2).2
        rw [if_pos q2, if_neg (fun y => y q2), e46_55]
        by_cases q3 : tSitr T (wL tp n p1) = tSitr T (wL tp n p2)
        · rw [if_pos q3, if_pos q3, if_pos (F_a3 w2), Cl_eq _ (kq_35 l2.1 5 (d + 7)).1, if_pos (by decide)]
          obtain ⟨g1, g2⟩ := LnA_f l2 5
          exact ⟨0, _, rfl, FrP_tr f1 (FrP_tr f2 g1), g2⟩
        · have n2 : ld h2 b 4 = T 1 0 := congrFun (congrFun l2.2.1 1) 0
          have f3 := BkF_st (BkF_rf (b := b) w2) (a := b + 8) (j := tSitr T (wL tp n p1)) (v := tSitr T (wL tp n p2)) (by omega) (nfam_at bf_nA hb (by decide) _)
          have e3 := tC_a11 (h := h2) (b := b) (i := tSitr T (wL tp n p1)) (by rw [n2]; exact r1) (tSitr T (wL tp n p2))
          rw [l2.2.1] at e3
          have l4 : PL _ tp b n p2 (up2 T 11 (tSitr T (wL tp n p1)) (tSitr T (wL tp n p2))) tw hl kn :=
            PL_bk l2 f3 e3 ((ld_st_ne (Or.inl (by omega))).trans l2.2.2.1) ((ld_st_ne (Or.inl (by omega))).trans l2.2.2.2.1) (TOK_hei pT r2 q3) (CB_of l2.2.2.2.2.2.2.1 (fun off o1 o2 j => ld_st_ne (Or.inl (by omega)))) (I32_up2 pI (I32_of (by omega)))
          obtain ⟨h5, a5, f5, l5⟩ := PL_adv l4 (d + 1)
          have w4 := l4.1.1.1
          rw [if_neg q3, if_neg q3]
          refine ⟨1, h5, ?_, FrP_tr f1 (FrP_tr f2 (FrP_tr (FrP_B f3) f5)), rfl, l5⟩
          rw [e46_66, if_pos (F_a3 w2), eb2, if_pos (bfF0 w2 hb), bfP10 w2 hb, if_pos (bfW8 w2 hb), bfL8 w2 hb, if_pos (by omega), e46_76, if_pos (F_a3 w4), P3_0 w4, if_pos (F_a4 w4), Cl_eq _ a5, if_pos (by decide)]
      · rw [if_neg q2, if_pos q2, e46_53, if_pos (by decide)]
        obtain ⟨g1, g2⟩ := LnA_f l2 (nxk (tkn tp n p2) (tSitr T (wL tp n p2)))
        exact ⟨0, _, rfl, FrP_tr f1 (FrP_tr f2 g1), g2⟩
    · rw [if_neg q5, if_pos q5, e46_31, if_pos (F_a3 w1), Cl_eq _ (kq_35 l1.1 3 (d + 7)).1, if_pos (by decide)]
      obtain ⟨g1, g2⟩ := LnA_f l1 3
      exact ⟨0, _, rfl, FrP_tr f1 g1, g2⟩
  · rw [if_neg q1, if_pos q1, e46_16, if_pos (by decide)]
    obtain ⟨g1, g2⟩ := LnA_f l1 (nxk (tkn tp n p1) (tSitr T (wL tp n p1)))
    exact ⟨0, _, rfl, FrP_tr f1 g1, g2⟩
end LK
