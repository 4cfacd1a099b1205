/-! layer 2: a piece's line -/
section LW
variable {h : Hp} {tp : Int → Int} {b n pl : Int} {T : Wd} {tw hl kn : Int}
def lnWan (tp : Int → Int) (n : Int) (T : Wd) (tw hl kn pl : Int) : LnR :=
  if ¬ T 2 0 < 10 then .error (2, pl) else
  let p1 := adv tp n pl
  let s := tSitr T (wL tp n p1)
  if ¬ nxk (tkn tp n p1) s = 0 then .error (nxk (tkn tp n p1) s, p1) else
  let p2 := adv tp n p1
  let f := tFeat T (wL tp n p2)
  if ¬ nxk (tkn tp n p2) f = 0 then .error (nxk (tkn tp n p2) f, p2) else
  if ¬ tPiec T s f = -1 then .error (3, p2) else
  let p3 := adv tp n p2
  if ¬ nck tp n p3 0 99 = 0 then .error (nck tp n p3 0 99, p3) else
  .ok (tPie T s f (wN tp n p3), tw, hl, kn, adv tp n p3)
theorem nxk_0 {t x : Int} (h : nxk t x = 0) : t = -3 ∧ x ≠ -1 := by
  unfold nxk at h
  split at h
  · split at h
    · omega
    · rename_i a b; exact ⟨a, b⟩
  · omega
theorem sitr_r (hT : TOK T) {x : Int} (h : tSitr T x ≠ -1) : 0 ≤ tSitr T x ∧ tSitr T x < T 1 0 := by
  have := hT.2.1
  rcases fnd_rng (f := fun k => decide (T 7 k = x)) (T 1 0).toNat 0 with q | ⟨q1, q2, -⟩
  · exact absurd q h
  · unfold tSitr; omega
theorem feat_r (hT : TOK T) {x : Int} (h : tFeat T x ≠ -1) : 0 ≤ tFeat T x ∧ tFeat T x < T 0 0 := by
  have := hT.1
  rcases fnd_rng (f := fun k => decide (T 4 k = x)) (T 0 0).toNat 0 with q | ⟨q1, q2, -⟩
  · exact absurd q h
  · unfold tFeat; omega
theorem TOK_pie (hT : TOK T) (h5 : T 2 0 < 10) {u v x : Int} (hu : 0 ≤ u ∧ u < T 1 0) (hv : 0 ≤ v ∧ v < T 0 0) (hx : 0 ≤ x ∧ x ≤ 99) : TOK (tPie T u v x) := by
  obtain ⟨t0, t1, t2, t3, t4, t5, t6⟩ := hT
  have e2 : tPie T u v x 2 0 = T 2 0 + 1 := rfl
  refine ⟨t0, t1, by rw [e2]; omega, t3, fun p p0 p1 => ?_, t5, t6⟩
  rw [e2] at p1
  have e12 : tPie T u v x 12 p = if p = T 2 0 then u else T 12 p := by simp [tPie]
  have e13 : tPie T u v x 13 p = if p = T 2 0 then v else T 13 p := by simp [tPie]
  have e14 : tPie T u v x 14 p = if p = T 2 0 then x else T 14 p := by simp [tPie]
  have e1 : tPie T u v x 1 0 = T 1 0 := rfl
  have e0 : tPie T u v x 0 0 = T 0 0 := rfl
  rw [e12, e13, e14, e1, e0]
  by_cases q : p = T 2 0
  · simp only [if_pos q]; exact ⟨hu, hv, by omega⟩
  · simp only [if_neg q]; exact t4 p p0 (by omega)
theorem I32_pie (hI : ∀ f i, I32 (T f i)) (h5 : 0 ≤ T 2 0 ∧ T 2 0 < 10) {u v x : Int} (hu : I32 u) (hv : I32 v) (hx : I32 x) : ∀ f i, I32 (tPie T u v x f i) := fun f i => by
  unfold tPie
  split
  · exact I32_of (by omega)
  split
  · exact hu
  split
  · exact hv
  split
  · exact hx
  · exact hI f i
/-- after a fault in a name the caller gives up -/
theorem qS_1 (w : WF h) (hb : b ∈ BKL) (d : Nat) : C d 67 [(2, b), (0, -1)] h = some ((0, 0), h) := kq_67 w hb d (-1)
theorem qF_1 (w : WF h) (hb : b ∈ BKL) (d : Nat) : C d 66 [(2, b), (0, -1)] h = some ((0, 0), h) := kq_66 w hb d (-1)
theorem flt3 (p : PL h tp b n pl T tw hl kn) (k : Int) : WF (st (st h 3 7 k) 3 8 pl) ∧ ld (st (st h 3 7 k) 3 8 pl) 3 1 = b := ⟨(LnA_f p k).1.1, by rw [ld_st_ne (Or.inr (by decide)), ld_st_ne (Or.inr (by decide))]; exact p.1.2.2.2.1⟩
theorem kq_43 (p : PL h tp b n pl T tw hl kn) (d : Nat) : ∃ r h', C (d + 8) 43 [(2, 3)] h = some ((0, r), h') ∧ FrP b h h' ∧ LnA tp b n r h' (lnWan tp n T tw hl kn pl) := by
  obtain ⟨ps, pt, p8, p17, p5, pT, pC, pI, -⟩ := id p
  have w := ps.1.1
  have hb := ps.2.2.1
  have eb := ps.2.2.2.1
  have t11 : ld h b 11 = T 2 0 := congrFun (congrFun pt 2) 0
  unfold lnWan
  rw [ce_43, e43_0, if_pos (F_a3 w), eb, if_pos (bfF0 w hb), t11]
  by_cases q : T 2 0 < 10
  · obtain ⟨h1, f1, l1, a1⟩ := kq_40 p d
    have w1 := l1.1.1.1
    have eb1 := l1.1.2.2.2.1
    rw [if_pos q, if_neg (fun z => z q), e43_18, if_pos (F_a3 w)]
    dsimp only
    generalize hp1 : adv tp n pl = p1 at *
    by_cases q1 : nxk (tkn tp n p1) (tSitr T (wL tp n p1)) = 0
    · rw [if_pos q1] at a1
      have r1 := sitr_r pT (nxk_0 q1).2
      have s1 : qSit T (tSitr T (wL tp n p1)) = true := qSit_iff.mpr r1
      rw [Cl_eq _ a1, if_pos (F_a3 w1), eb1, if_pos (bfF0 w1 hb), Cl_eq _ (kq_67 w1 hb (d + 7) _), l1.2.1, s1, if_neg (by decide), if_neg (fun y => y q1)]
      obtain ⟨h2, f2, l2, a2⟩ := kq_41 l1 d
      have w2 := l2.1.1.1
      have eb2 := l2.1.2.2.2.1
      rw [e43_36, if_pos (F_a3 w1)]
      generalize hp2 : adv tp n p1 = p2 at *
      by_cases q2 : nxk (tkn tp n p2) (tFeat T (wL tp n p2)) = 0
      · rw [if_pos q2] at a2
        have r2 := feat_r pT (nxk_0 q2).2
        have s2 : qFea T (tFeat T (wL tp n p2)) = true := qFea_iff.mpr r2
        rw [Cl_eq _ a2, if_pos (F_a3 w2), eb2, if_pos (bfF0 w2 hb), Cl_eq _ (kq_66 w2 hb (d + 7) _), l2.2.1, s2, if_neg (by decide), if_neg (fun y => y q2), e43_54, if_pos (F_a3 w2), eb2, if_pos (bfF0 w2 hb), Cl_eq _ (kq_72 w2 hb (by rw [l2.2.1]; exact pT) (d + 7) _ _), l2.2.1]
        by_cases q3 : tPiec T (tSitr T (wL tp n p1)) (tFeat T (wL tp n p2)) = -1
        · obtain ⟨h3, a3, f3, l3⟩ := PL_adv l2 (d + 1)
          have w3 := l3.1.1.1
          have eb3 := l3.1.2.2.2.1
          rw [if_pos q3, if_neg (fun y => y q3), e43_73, if_pos (F_a3 w2), P3_0 w2, if_pos (F_a4 w2), Cl_eq _ a3, if_pos (F_a3 w3)]
          generalize hp3 : adv tp n p2 = p3 at *
          obtain ⟨n3', m3⟩ := kq_39n l3 (lo := 0) (hi := 99) (by decide) (by decide) (d + 6)
          by_cases y3 : nck tp n p3 0 99 = 0
          · rw [if_pos y3] at n3'
            obtain ⟨v3, b3⟩ := m3 y3
            have t3 : ld h3 b 11 = T 2 0 := congrFun (congrFun l3.2.1 2) 0
            have b1 := pT.1
            have b2 := pT.2.1
            obtain ⟨h4, a4, f4, e4, e48, e417, lw4⟩ := kq_75 w3 hb (by rw [t3]; exact ⟨pT.2.2.1.1, q⟩) (tSitr T (wL tp n p1)) (tFeat T (wL tp n p2)) (wN tp n p3) (d + 7)
            rw [l3.2.1] at e4
            have l4 : PL h4 tp b n p3 (tPie T (tSitr T (wL tp n p1)) (tFeat T (wL tp n p2)) (wN tp n p3)) tw hl kn :=
              PL_bk l3 f4 e4 (e48.trans l3.2.2.1) (e417.trans l3.2.2.2.1) (TOK_pie pT q r1 r2 b3) (CB_of l3.2.2.2.2.2.2.1 lw4) (I32_pie pI ⟨pT.2.2.1.1, q⟩ (I32_of (by omega)) (I32_of (by omega)) (I32_of (by omega)))
            obtain ⟨h5, a5, f5, l5⟩ := PL_adv l4 (d + 1)
            have w4 := l4.1.1.1
            rw [Cl_eq _ n3', if_neg (by decide), if_neg (fun y => y y3)]
            refine ⟨1, h5, ?_, FrP_tr f1 (FrP_tr f2 (FrP_tr f3 (FrP_tr (FrP_B f4) f5))), rfl, l5⟩
            rw [e43_92, if_pos (F_a3 w3), if_pos (F_a3 w3), P3_0 w3, if_pos (F_a4 w3), eb3, if_pos (bfF0 w3 hb), v3, Cl_eq _ a4, e43_108, if_pos (F_a3 w4), P3_0 w4, if_pos (F_a4 w4), Cl_eq _ a5, if_pos (by decide)]
          · rw [if_neg y3] at n3'
            rw [Cl_eq _ n3', if_pos rfl, if_pos y3, e43_90, if_pos (by decide)]
            obtain ⟨g1, g2⟩ := LnA_f l3 (nck tp n p3 0 99)
            exact ⟨0, _, rfl, FrP_tr f1 (FrP_tr f2 (FrP_tr f3 g1)), g2⟩
        · rw [if_neg q3, if_pos q3, e43_67, if_pos (F_a3 w2), Cl_eq _ (kq_35 l2.1 3 (d + 7)).1, if_pos (by decide)]
          obtain ⟨g1, g2⟩ := LnA_f l2 3
          exact ⟨0, _, rfl, FrP_tr f1 (FrP_tr f2 g1), g2⟩
      · rw [if_neg q2] at a2
        obtain ⟨g1, g2⟩ := LnA_f l2 (nxk (tkn tp n p2) (tFeat T (wL tp n p2)))
        obtain ⟨wf, ef⟩ := flt3 l2 (nxk (tkn tp n p2) (tFeat T (wL tp n p2)))
        rw [Cl_eq _ a2, if_pos (F_a3 wf), ef, if_pos (bfF0 wf hb), Cl_eq _ (qF_1 wf hb (d + 7)), if_pos rfl, if_pos q2, e43_52, if_pos (by decide)]
        exact ⟨0, _, rfl, FrP_tr f1 (FrP_tr f2 g1), g2⟩
    · rw [if_neg q1] at a1
      obtain ⟨g1, g2⟩ := LnA_f l1 (nxk (tkn tp n p1) (tSitr T (wL tp n p1)))
      obtain ⟨wf, ef⟩ := flt3 l1 (nxk (tkn tp n p1) (tSitr T (wL tp n p1)))
      rw [Cl_eq _ a1, if_pos (F_a3 wf), ef, if_pos (bfF0 wf hb), Cl_eq _ (qS_1 wf hb (d + 7)), if_pos rfl, if_pos q1, e43_34, if_pos (by decide)]
      exact ⟨0, _, rfl, FrP_tr f1 g1, g2⟩
  · rw [if_neg q, if_pos q, e43_12, if_pos (F_a3 w), Cl_eq _ (kq_35 ps 2 (d + 7)).1, if_pos (by decide)]
    obtain ⟨g1, g2⟩ := LnA_f p 2
    exact ⟨0, _, rfl, g1, g2⟩
end LW
