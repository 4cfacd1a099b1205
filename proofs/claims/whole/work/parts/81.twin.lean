/-! layer 2: twins -/
section LT
variable {h : Hp} {tp : Int → Int} {b n pl : Int} {T : Wd} {tw hl kn : Int}
def lnTwi (tp : Int → Int) (n : Int) (T : Wd) (tw hl kn pl : Int) : LnR :=
  if ¬ tw < 2 then .error (2, pl) else
  let p1 := adv tp n pl
  let s := tSitr T (wL tp n p1)
  if ¬ nxk (tkn tp n p1) s = 0 then .error (nxk (tkn tp n p1) s, p1) else
  if ¬ T 10 s = -1 then .error (3, p1) else
  let p2 := adv tp n p1
  let t := tSitr T (wL tp n p2)
  if ¬ nxk (tkn tp n p2) t = 0 then .error (nxk (tkn tp n p2) t, p2) else
  if ¬ T 10 t = -1 then .error (3, p2) else
  if s = t then .error (5, p2) else
  .ok (up2 (up2 T 10 s t) 10 t s, tw + 1, hl, kn, adv tp n p2)
theorem TOK_twi (hT : TOK T) {s t : Int} (ht : 0 ≤ t ∧ t < T 1 0) (hst : ¬ s = t) : TOK (up2 T 10 s t) := by
  obtain ⟨t0, t1, t2, t3, t4, t5, t6⟩ := hT
  refine ⟨t0, t1, t2, t3, t4, fun x x0 x1 => ?_, t6⟩
  obtain ⟨a, b⟩ := t5 x x0 x1
  refine ⟨?_, b⟩
  have e : up2 T 10 s t 10 x = if x = s then t else T 10 x := by simp [up2]
  have e1 : up2 T 10 s t 1 0 = T 1 0 := rfl
  rw [e, e1]
  by_cases q : x = s
  · rw [if_pos q]; right; omega
  · rw [if_neg q]; exact a
theorem kq_45 (p : PL h tp b n pl T tw hl kn) (htw : 0 ≤ tw) (d : Nat) : ∃ r h', C (d + 8) 45 [(2, 3)] h = some ((0, r), h') ∧ FrP b h h' ∧ LnA tp b n r h' (lnTwi tp n T tw hl kn pl) := by
  obtain ⟨ps, pt, p8, p17, p5, pT, pC, pI, -⟩ := id p
  have w := ps.1.1
  have hb := ps.2.2.1
  have eb := ps.2.2.2.1
  unfold lnTwi
  rw [ce_45, e45_0, if_pos (F_a3 w), eb, if_pos (bfF0 w hb), p8]
  by_cases q : tw < 2
  · obtain ⟨h1, f1, l1, a1⟩ := nxS p d
    have w1 := l1.1.1.1
    have eb1 := l1.1.2.2.2.1
    rw [if_pos q, if_neg (fun z => z q), e45_17, if_pos (F_a3 w), a1]
    dsimp only
    generalize hp1 : adv tp n pl = p1 at *
    by_cases q1 : nxk (tkn tp n p1) (tSitr T (wL tp n p1)) = 0
    · have r1 := sitr_r pT (nxk_0 q1).2
      have b4 := pT.2.1
      have n1 : ld h1 b 4 = T 1 0 := congrFun (congrFun l1.2.1 1) 0
      have v1 : ld h1 (b + 7) (tSitr T (wL tp n p1)) = T 10 (tSitr T (wL tp n p1)) := by rw [tC_10 (by rw [n1]; exact r1), l1.2.1]
      rw [if_pos q1, if_neg (fun y => y q1), e45_35, if_pos (F_a3 w1), eb1, if_pos (bfF0 w1 hb), bfP9 w1 hb, if_pos (bfF7 w1 hb), bfL7 w1 hb, if_pos (by omega), v1]
      by_cases q5 : T 10 (tSitr T (wL tp n p1)) = -1
      · obtain ⟨h2, f2, l2, a2⟩ := nxS l1 d
        have w2 := l2.1.1.1
        have eb2 := l2.1.2.2.2.1
        rw [if_pos q5, if_neg (fun y => y q5), e45_54, if_pos (F_a3 w1), a2]
        generalize hp2 : adv tp n p1 = p2 at *
        by_cases q2 : nxk (tkn tp n p2) (tSitr T (wL tp n p2)) = 0
        · have r2 := sitr_r pT (nxk_0 q2).2
          have n2 : ld h2 b 4 = T 1 0 := congrFun (congrFun l2.2.1 1) 0
          have v2 : ld h2 (b + 7) (tSitr T (wL tp n p2)) = T 10 (tSitr T (wL tp n p2)) := by rw [tC_10 (by rw [n2]; exact r2), l2.2.1]
          rw [if_pos q2, if_neg (fun y => y q2), e45_72, if_pos (F_a3 w2), eb2, if_pos (bfF0 w2 hb), bfP9 w2 hb, if_pos (bfF7 w2 hb), bfL7 w2 hb, if_pos (by omega), v2]
          by_cases q6 : T 10 (tSitr T (wL tp n p2)) = -1
          · rw [if_pos q6, if_neg (fun y => y q6), e45_91]
            by_cases q3 : tSitr T (wL tp n p1) = tSitr T (wL tp n p2)
            · rw [if_pos q3, if_pos q3, if_pos (F_a3 w2), Cl_eq _ (kq_35 l2.1 5 (d + 7)).1, if_pos (by decide)]
              obtain ⟨g1, g2⟩ := LnA_f l2 5
              exact ⟨0, _, rfl, FrP_tr f1 (FrP_tr f2 g1), g2⟩
            · generalize tSitr T (wL tp n p1) = s at *
              generalize tSitr T (wL tp n p2) = t at *
              have f3 := BkF_st (BkF_rf (b := b) w2) (a := b + 7) (j := s) (v := t) (by omega) (nfam_at bf_nA hb (by decide) _)
              have e3 := tC_a10 (h := h2) (b := b) (i := s) (by rw [n2]; exact r1) t
              rw [l2.2.1] at e3
              have l3 : PL _ tp b n p2 (up2 T 10 s t) tw hl kn :=
                PL_bk l2 f3 e3 ((ld_st_ne (Or.inl (by omega))).trans l2.2.2.1) ((ld_st_ne (Or.inl (by omega))).trans l2.2.2.2.1) (TOK_twi pT r2 q3) (CB_of l2.2.2.2.2.2.2.1 (fun off o1 o2 j => ld_st_ne (Or.inl (by omega)))) (I32_up2 pI (I32_of (by omega)))
              have w3 := l3.1.1.1
              have eb3 := l3.1.2.2.2.1
              have n3 : ld (st h2 (b + 7) s t) b 4 = T 1 0 := (congrFun (congrFun l3.2.1 1) 0).trans rfl
              have f4 := BkF_st (BkF_rf (b := b) w3) (a := b + 7) (j := t) (v := s) (by omega) (nfam_at bf_nA hb (by decide) _)
              have e4 := tC_a10 (h := st h2 (b + 7) s t) (b := b) (i := t) (by rw [n3]; exact r2) s
              rw [l3.2.1] at e4
              have T4 : TOK (up2 (up2 T 10 s t) 10 t s) := TOK_twi l3.2.2.2.2.2.1 (s := t) (t := s) r1 (fun z => q3 z.symm)
              have l4 : PL _ tp b n p2 (up2 (up2 T 10 s t) 10 t s) tw hl kn :=
                PL_bk l3 f4 e4 ((ld_st_ne (Or.inl (by omega))).trans l3.2.2.1) ((ld_st_ne (Or.inl (by omega))).trans l3.2.2.2.1) T4 (CB_of l3.2.2.2.2.2.2.1 (fun off o1 o2 j => ld_st_ne (Or.inl (by omega)))) (I32_up2 l3.2.2.2.2.2.2.2.1 (I32_of (by omega)))
              have w4 := l4.1.1.1
              have eb4 := l4.1.2.2.2.1
              have e48 := l4.2.2.1
              have f5 := BkF_st (BkF_rf (b := b) w4) (a := b) (j := 8) (v := tw + 1) (by omega) (bjn hb (by decide))
              have e5 := tC_f8 (h := st (st h2 (b + 7) s t) (b + 7) t s) (b := b) (tw + 1)
              rw [l4.2.1] at e5
              have l5 : PL _ tp b n p2 (up2 (up2 T 10 s t) 10 t s) (tw + 1) hl kn :=
                PL_bk l4 f5 e5 (ld_st_eq _ _ _ _) ((ld_st_ne (Or.inr (by decide))).trans l4.2.2.2.1) T4 (CB_of l4.2.2.2.2.2.2.1 (fun off o1 o2 j => ld_st_ne (Or.inl (by omega)))) l4.2.2.2.2.2.2.2.1
              obtain ⟨h6, a6, f6, l6⟩ := PL_adv l5 (d + 1)
              have w5 := l5.1.1.1
              rw [if_neg q3, if_neg q3]
              refine ⟨1, h6, ?_, FrP_tr f1 (FrP_tr f2 (FrP_tr (FrP_B f3) (FrP_tr (FrP_B f4) (FrP_tr (FrP_B f5) f6)))), rfl, l6⟩
              rw [e45_102, if_pos (F_a3 w2), eb2, if_pos (bfF0 w2 hb), bfP9 w2 hb, if_pos (bfW7 w2 hb), bfL7 w2 hb, if_pos (by omega), e45_112, if_pos (F_a3 w3), eb3, if_pos (bfF0 w3 hb), bfP9 w3 hb, if_pos (bfW7 w3 hb), bfL7 w3 hb, if_pos (by omega), e45_122, if_pos (F_a3 w4), eb4, if_pos (bfF0 w4 hb), if_pos (bfW0 w4 hb), e48, wk (N := 2) htw q (by decide), e45_135, if_pos (F_a3 w5), P3_0 w5, if_pos (F_a4 w5), Cl_eq _ a6, if_pos (by decide)]
          · rw [if_neg q6, if_pos q6, e45_85, if_pos (F_a3 w2), Cl_eq _ (kq_35 l2.1 3 (d + 7)).1, if_pos (by decide)]
            obtain ⟨g1, g2⟩ := LnA_f l2 3
            exact ⟨0, _, rfl, FrP_tr f1 (FrP_tr f2 g1), g2⟩
        · rw [if_neg q2, if_pos q2, e45_70, if_pos (by decide)]
          obtain ⟨g1, g2⟩ := LnA_f l2 (nxk (tkn tp n p2) (tSitr T (wL tp n p2)))
          exact ⟨0, _, rfl, FrP_tr f1 (FrP_tr f2 g1), g2⟩
      · rw [if_neg q5, if_pos q5, e45_48, if_pos (F_a3 w1), Cl_eq _ (kq_35 l1.1 3 (d + 7)).1, if_pos (by decide)]
        obtain ⟨g1, g2⟩ := LnA_f l1 3
        exact ⟨0, _, rfl, FrP_tr f1 g1, g2⟩
    · rw [if_neg q1, if_pos q1, e45_33, if_pos (by decide)]
      obtain ⟨g1, g2⟩ := LnA_f l1 (nxk (tkn tp n p1) (tSitr T (wL tp n p1)))
      exact ⟨0, _, rfl, FrP_tr f1 g1, g2⟩
  · rw [if_neg q, if_pos q, e45_11, if_pos (F_a3 w), Cl_eq _ (kq_35 ps 2 (d + 7)).1, if_pos (by decide)]
    obtain ⟨g1, g2⟩ := LnA_f p 2
    exact ⟨0, _, rfl, g1, g2⟩
end LT
