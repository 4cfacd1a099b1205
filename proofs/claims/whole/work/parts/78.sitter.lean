/-! layer 2: a sitter's line, the next name -/
section LS
variable {h : Hp} {tp : Int → Int} {b n pl : Int} {T : Wd} {tw hl kn : Int}
/-- a sitter -/
def lnSit (tp : Int → Int) (n : Int) (T : Wd) (tw hl kn pl : Int) : LnR :=
  if ¬ T 1 0 < 5 then .error (2, pl) else
  let p1 := adv tp n pl
  if ¬ tkn tp n p1 = -3 then .error (1, p1) else if ¬ tSitr T (wL tp n p1) = -1 then .error (3, p1) else
  let p2 := adv tp n p1
  if ¬ nck tp n p2 0 999 = 0 then .error (nck tp n p2 0 999, p2) else
  let p3 := adv tp n p2
  if ¬ nck tp n p3 0 99 = 0 then .error (nck tp n p3 0 99, p3) else
  .ok (tSit T (wL tp n p1) (wN tp n p2) (wN tp n p3), tw, hl, kn, adv tp n p3)
theorem TOK_sit (hT : TOK T) (h5 : T 1 0 < 5) (u v x : Int) : TOK (tSit T u v x) := by
  obtain ⟨t0, t1, t2, t3, t4, t5, t6⟩ := hT
  have e1 : tSit T u v x 1 0 = T 1 0 + 1 := rfl
  refine ⟨t0, by rw [e1]; omega, t2, t3, fun p p0 p1 => ?_, fun s s0 s1 => ?_, t6⟩
  · obtain ⟨a, b, c⟩ := t4 p p0 p1
    exact ⟨⟨a.1, by rw [e1]; have : tSit T u v x 12 p = T 12 p := rfl; omega⟩, b, c⟩
  · rw [e1] at s1 ⊢
    have e10 : tSit T u v x 10 s = if s = T 1 0 then -1 else T 10 s := by simp [tSit]
    have e11 : tSit T u v x 11 s = if s = T 1 0 then -1 else T 11 s := by simp [tSit]
    rw [e10, e11]
    by_cases q : s = T 1 0
    · simp [q]
    · rw [if_neg q, if_neg q]
      obtain ⟨a, b⟩ := t5 s s0 (by omega)
      exact ⟨a.imp id (fun z => ⟨z.1, by omega, z.2.2⟩), b.imp id (fun z => ⟨z.1, by omega, z.2.2⟩)⟩
theorem I32_sit (hI : ∀ f i, I32 (T f i)) (h5 : 0 ≤ T 1 0 ∧ T 1 0 < 5) {u v x : Int} (hu : I32 u) (hv : I32 v) (hx : I32 x) : ∀ f i, I32 (tSit T u v x f i) := fun f i => by
  unfold tSit
  split
  · exact I32_of (by omega)
  split
  · exact hu
  split
  · exact hv
  split
  · exact hx
  split
  · exact I32_of (by decide)
  split
  · exact I32_of (by decide)
  · exact hI f i
theorem kq_37 (p : PL h tp b n pl T tw hl kn) (d : Nat) : ∃ r h', C (d + 7) 37 [(2, 3)] h = some ((0, r), h') ∧ FrP b h h' ∧ LnA tp b n r h' (lnSit tp n T tw hl kn pl) := by
  obtain ⟨ps, pt, p8, p17, p5, pT, pC, pI, -⟩ := id p
  have w := ps.1.1
  have hb := ps.2.2.1
  have eb := ps.2.2.2.1
  have t0 : ld h b 4 = T 1 0 := congrFun (congrFun pt 1) 0
  unfold lnSit
  rw [ce_37, e37_0, if_pos (F_a3 w), eb, if_pos (bfF0 w hb), t0]
  by_cases q : T 1 0 < 5
  · rw [if_pos q, if_neg (fun z => z q), e37_17, if_pos (F_a3 w), P3_0 w, if_pos (F_a4 w)]
    obtain ⟨h1, a1, f1, l1⟩ := PL_adv p d
    have ps1 := l1.1
    have w1 := ps1.1.1
    have eb1 := ps1.2.2.2.1
    dsimp only
    rw [Cl_eq _ a1, if_pos (F_a3 w1), P3_0 w1, if_pos (F_a4 w1), e37_32, if_pos (F_a3 w1), eb1, if_pos (bfF0 w1 hb), Cl_eq _ (kq_71 w1 hb (by rw [l1.2.1]; exact pT) (d + 6) _), if_pos (F_a3 w1), Cl_eq _ (show C (d + 6) 38 [(2, 3), (0, tSitr (tC h1 b) (ld h1 4 6))] h1 = some ((0, if tkn tp n (adv tp n pl) = -3 ∧ tSitr T (wL tp n (adv tp n pl)) = -1 then 1 else 0), if tkn tp n (adv tp n pl) = -3 ∧ tSitr T (wL tp n (adv tp n pl)) = -1 then h1 else st (st h1 3 7 (if tkn tp n (adv tp n pl) = -3 then 3 else 1)) 3 8 (adv tp n pl)) by
      rw [kq_38 ps1 _ (d + 5), l1.2.1]
      by_cases z : tkn tp n (adv tp n pl) = -3
      · obtain ⟨c1, c2⟩ := (tkn_c tp n (adv tp n pl)).2.1 z
        rw [ps1.2.2.2.2.2.2.2.1 c1 c2]
        by_cases z2 : tSitr T (wL tp n (adv tp n pl)) = -1
        · simp only [z, z2, and_self, if_true]
        · simp only [z, z2, and_false, if_true, if_false]
      · simp only [z, false_and, if_false])]
    by_cases z : tkn tp n (adv tp n pl) = -3
    · by_cases z2 : tSitr T (wL tp n (adv tp n pl)) = -1
      · simp only [if_pos (show tkn tp n (adv tp n pl) = -3 ∧ tSitr T (wL tp n (adv tp n pl)) = -1 from ⟨z, z2⟩)]
        rw [if_neg (by decide), if_neg (fun y => y z), if_neg (fun y => y z2)]
        obtain ⟨h2, a2, f2, l2⟩ := PL_adv l1 d
        have w2 := l2.1.1.1
        have eb2 := l2.1.2.2.2.1
        obtain ⟨c1, c2⟩ := (tkn_c tp n (adv tp n pl)).2.1 z
        have hnm : ld h1 4 6 = wL tp n (adv tp n pl) := ps1.2.2.2.2.2.2.2.1 c1 c2
        obtain ⟨n2, m2⟩ := kq_39n l2 (lo := 0) (hi := 999) (by decide) (by decide) (d + 5)
        rw [e37_49, if_pos (F_a3 w1), P3_0 w1, if_pos (F_a4 w1), Cl_eq _ a2, if_pos (F_a3 w2), P3_0 w2, if_pos (F_a4 w2), e37_64, if_pos (F_a3 w2)]
        by_cases y2 : nck tp n (adv tp n (adv tp n pl)) 0 999 = 0
        · rw [if_pos y2] at n2
          obtain ⟨v2, b2⟩ := m2 y2
          rw [Cl_eq _ n2, if_neg (by decide), if_neg (fun y => y y2)]
          obtain ⟨h3, a3, f3, l3⟩ := PL_adv l2 d
          have w3 := l3.1.1.1
          have eb3 := l3.1.2.2.2.1
          obtain ⟨n3', m3⟩ := kq_39n l3 (lo := 0) (hi := 99) (by decide) (by decide) (d + 5)
          rw [e37_77, if_pos (F_a3 w2), P3_0 w2, if_pos (F_a4 w2), Cl_eq _ a3, if_pos (F_a3 w3)]
          by_cases y3 : nck tp n (adv tp n (adv tp n (adv tp n pl))) 0 99 = 0
          · rw [if_pos y3] at n3'
            obtain ⟨v3, b3⟩ := m3 y3
            rw [Cl_eq _ n3', if_neg (by decide), if_neg (fun y => y y3)]
            have t3 : ld h3 b 4 = T 1 0 := congrFun (congrFun l3.2.1 1) 0
            obtain ⟨h4, a4, f4, e4, e48, e417, lw4⟩ := kq_74 w3 hb (by rw [t3]; exact ⟨pT.2.1.1, q⟩) (wL tp n (adv tp n pl)) (wN tp n (adv tp n (adv tp n pl))) (wN tp n (adv tp n (adv tp n (adv tp n pl)))) (d + 6)
            rw [l3.2.1] at e4
            have l4 : PL h4 tp b n (adv tp n (adv tp n (adv tp n pl))) (tSit T (wL tp n (adv tp n pl)) (wN tp n (adv tp n (adv tp n pl))) (wN tp n (adv tp n (adv tp n (adv tp n pl))))) tw hl kn :=
              PL_bk l3 f4 e4 (e48.trans l3.2.2.1) (e417.trans l3.2.2.2.1) (TOK_sit pT q _ _ _) (CB_of l3.2.2.2.2.2.2.1 lw4) (I32_sit pI ⟨pT.2.1.1, q⟩ (wL_I _ _ _) (I32_of (by omega)) (I32_of (by omega)))
            obtain ⟨h5, a5, f5, l5⟩ := PL_adv l4 d
            have w4 := l4.1.1.1
            refine ⟨1, h5, ?_, FrP_tr f1 (FrP_tr f2 (FrP_tr f3 (FrP_tr (FrP_B f4) f5))), rfl, l5⟩
            rw [e37_96, if_pos (F_a3 w3), if_pos (F_a3 w3), P3_0 w3, if_pos (F_a4 w3), eb3, if_pos (bfF0 w3 hb), hnm, v2, v3, Cl_eq _ a4, e37_112, if_pos (F_a3 w4), P3_0 w4, if_pos (F_a4 w4), Cl_eq _ a5, if_pos (by decide)]
          · rw [if_neg y3] at n3'
            rw [Cl_eq _ n3', if_pos rfl, if_pos y3, e37_94, if_pos (by decide)]
            obtain ⟨g1, g2⟩ := LnA_f l3 (nck tp n (adv tp n (adv tp n (adv tp n pl))) 0 99)
            exact ⟨0, _, rfl, FrP_tr f1 (FrP_tr f2 (FrP_tr f3 g1)), g2⟩
        · rw [if_neg y2] at n2
          rw [Cl_eq _ n2, if_pos rfl, if_pos y2, e37_75, if_pos (by decide)]
          obtain ⟨g1, g2⟩ := LnA_f l2 (nck tp n (adv tp n (adv tp n pl)) 0 999)
          exact ⟨0, _, rfl, FrP_tr f1 (FrP_tr f2 g1), g2⟩
      · simp only [if_neg (show ¬ (tkn tp n (adv tp n pl) = -3 ∧ tSitr T (wL tp n (adv tp n pl)) = -1) from fun y => z2 y.2), if_pos z]
        rw [if_pos trivial, if_neg (fun y => y z), if_pos z2, e37_47, if_pos (by decide)]
        obtain ⟨g1, g2⟩ := LnA_f l1 3
        exact ⟨0, _, rfl, FrP_tr f1 g1, g2⟩
    · simp only [if_neg (show ¬ (tkn tp n (adv tp n pl) = -3 ∧ tSitr T (wL tp n (adv tp n pl)) = -1) from fun y => z y.1), if_neg z]
      rw [if_pos trivial, if_pos z, e37_47, if_pos (by decide)]
      obtain ⟨g1, g2⟩ := LnA_f l1 1
      exact ⟨0, _, rfl, FrP_tr f1 g1, g2⟩
  · rw [if_neg q, if_pos q, e37_11, if_pos (F_a3 w), Cl_eq _ (kq_35 ps 2 (d + 6)).1, if_pos (by decide)]
    obtain ⟨g1, g2⟩ := LnA_f p 2
    exact ⟨0, _, rfl, g1, g2⟩
/-- the next token as a name: 0 right, else the fault -/
def nxk (t x : Int) : Int := if t = -3 then (if x = -1 then 4 else 0) else 1
theorem kq_42n (p : PL h tp b n pl T tw hl kn) {g : Wd → Int → Int} (d : Nat) : ∃ z : Int, C (d + 1) 42 [(2, 3), (0, g T (ld h 4 6))] h = (if nxk (tkn tp n pl) (g T (wL tp n pl)) = 0 then some ((0, 1), h) else some ((0, 0), st (st h 3 7 (nxk (tkn tp n pl) (g T (wL tp n pl)))) 3 8 pl)) ∧ (nxk (tkn tp n pl) (g T (wL tp n pl)) = 0 → g T (ld h 4 6) = g T (wL tp n pl)) ∧ z = 0 := by
  refine ⟨0, ?_, ?_, rfl⟩
  · rw [kq_42 p.1]
    unfold nxk
    by_cases z : tkn tp n pl = -3
    · obtain ⟨c1, c2⟩ := (tkn_c tp n pl).2.1 z
      rw [p.1.2.2.2.2.2.2.2.1 c1 c2]
      by_cases z2 : g T (wL tp n pl) = -1
      · simp [z, z2]
      · simp [z, z2]
    · simp [z]
  · intro y
    unfold nxk at y
    by_cases z : tkn tp n pl = -3
    · obtain ⟨c1, c2⟩ := (tkn_c tp n pl).2.1 z
      rw [p.1.2.2.2.2.2.2.2.1 c1 c2]
    · rw [if_neg z] at y; omega
theorem kq_40 (p : PL h tp b n pl T tw hl kn) (d : Nat) : ∃ h1, FrP b h h1 ∧ PL h1 tp b n (adv tp n pl) T tw hl kn ∧ C (d + 7) 40 [(2, 3)] h = (if nxk (tkn tp n (adv tp n pl)) (tSitr T (wL tp n (adv tp n pl))) = 0 then some ((0, tSitr T (wL tp n (adv tp n pl))), h1) else some ((0, -1), st (st h1 3 7 (nxk (tkn tp n (adv tp n pl)) (tSitr T (wL tp n (adv tp n pl))))) 3 8 (adv tp n pl))) := by
  have w := p.1.1.1
  have hb := p.1.2.2.1
  obtain ⟨h1, a1, f1, l1⟩ := PL_adv p d
  have w1 := l1.1.1.1
  have eb1 := l1.1.2.2.2.1
  refine ⟨h1, f1, l1, ?_⟩
  obtain ⟨-, a2, a3, -⟩ := kq_42n (g := tSitr) l1 (d + 5)
  rw [ce_40, e40_0, if_pos (F_a3 w), P3_0 w, if_pos (F_a4 w), Cl_eq _ a1, if_pos (F_a3 w1), if_pos (F_a3 w1), P3_0 w1, if_pos (F_a4 w1), eb1, if_pos (bfF0 w1 hb), Cl_eq _ (kq_71 w1 hb (by rw [l1.2.1]; exact p.2.2.2.2.2.1) (d + 6) _), l1.2.1, e40_22, if_pos (F_a3 w1)]
  by_cases q : nxk (tkn tp n (adv tp n pl)) (tSitr T (wL tp n (adv tp n pl))) = 0
  · rw [if_pos q] at a2 ⊢
    rw [Cl_eq _ a2, if_neg (by decide), e40_35, a3 q]
  · rw [if_neg q] at a2 ⊢
    rw [Cl_eq _ a2, if_pos rfl, e40_34, e40_35]
theorem kq_41 (p : PL h tp b n pl T tw hl kn) (d : Nat) : ∃ h1, FrP b h h1 ∧ PL h1 tp b n (adv tp n pl) T tw hl kn ∧ C (d + 7) 41 [(2, 3)] h = (if nxk (tkn tp n (adv tp n pl)) (tFeat T (wL tp n (adv tp n pl))) = 0 then some ((0, tFeat T (wL tp n (adv tp n pl))), h1) else some ((0, -1), st (st h1 3 7 (nxk (tkn tp n (adv tp n pl)) (tFeat T (wL tp n (adv tp n pl))))) 3 8 (adv tp n pl))) := by
  have w := p.1.1.1
  have hb := p.1.2.2.1
  obtain ⟨h1, a1, f1, l1⟩ := PL_adv p d
  have w1 := l1.1.1.1
  have eb1 := l1.1.2.2.2.1
  refine ⟨h1, f1, l1, ?_⟩
  obtain ⟨-, a2, a3, -⟩ := kq_42n (g := tFeat) l1 (d + 5)
  rw [ce_41, e41_0, if_pos (F_a3 w), P3_0 w, if_pos (F_a4 w), Cl_eq _ a1, if_pos (F_a3 w1), if_pos (F_a3 w1), P3_0 w1, if_pos (F_a4 w1), eb1, if_pos (bfF0 w1 hb), Cl_eq _ (kq_70 w1 hb (by rw [l1.2.1]; exact p.2.2.2.2.2.1) (d + 6) _), l1.2.1, e41_22, if_pos (F_a3 w1)]
  by_cases q : nxk (tkn tp n (adv tp n pl)) (tFeat T (wL tp n (adv tp n pl))) = 0
  · rw [if_pos q] at a2 ⊢
    rw [Cl_eq _ a2, if_neg (by decide), e41_35, a3 q]
  · rw [if_neg q] at a2 ⊢
    rw [Cl_eq _ a2, if_pos rfl, e41_34, e41_35]
end LS
