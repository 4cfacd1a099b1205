/-! layer 2: the plain program reads kin -/
section KN
variable {h h' : Hp} {tp : Int → Int} {n pl : Int} {T : Wd} {tw hl kn op ln : Int}
/-- a cell behind the count is of no matter -/
theorem tR_so {g g1 : Hp} (o : ∀ x j : Int, ¬ ((325 ≤ x ∧ x ≤ 327) ∧ j = ld g 313 3) → ld g1 x j = ld g x j) : tR g1 = tR g := by
  have e13 : ∀ j, ld g1 313 j = ld g 313 j := fun j => o 313 j (by omega)
  have hh : hailAt g1 = hailAt g := hail_eq (fun j => ⟨e13 5, o 328 j (by omega)⟩)
  have er : ∀ (x : Int) (i : Int), rng i (ld g 313 3) (ld g1 x i) = rng i (ld g 313 3) (ld g x i) := fun x i => by
    unfold rng
    split
    · exact o x i (by omega)
    · rfl
  have o' : ∀ x j : Int, ¬ (325 ≤ x ∧ x ≤ 327) → ld g1 x j = ld g x j := fun x j u => o x j (fun v => u v.1)
  funext f i
  unfold tR
  split <;> first | rfl | (simp only [hh, e13, er, o' 314 _ (by decide), o' 315 _ (by decide), o' 316 _ (by decide), o' 317 _ (by decide), o' 318 _ (by decide), o' 319 _ (by decide), o' 320 _ (by decide), o' 321 _ (by decide), o' 322 _ (by decide), o' 323 _ (by decide), o' 324 _ (by decide), o' 329 _ (by decide), o' 330 _ (by decide), o' 331 _ (by decide), o' 332 _ (by decide)])
theorem PR_so (p : PR h tp n pl T tw hl kn op ln) {a v : Int} (ha : 325 ≤ a ∧ a ≤ 327) : WF (st h a (3 + T 3 0) v) ∧ PR (st h a (3 + T 3 0) v) tp n pl T tw hl kn op ln := by
  have w := p.1.1
  have p6 := p.2.2.2.2.2.1
  have ha3 : a = 325 ∨ a = 326 ∨ a = 327 := by omega
  have wg : WF (st h a (3 + T 3 0) v) := wf_st w (by rcases ha3 with rfl | rfl | rfl <;> exact npt_A (by decide +kernel) _)
  have hA : hfA a = 3 := by rcases ha3 with rfl | rfl | rfl <;> decide
  have k0 : ld (shf h) 313 3 = T 3 0 := rt3 p6
  have eT : tR (shf (st h a (3 + T 3 0) v)) = T := by
    rw [← hA, shf_st h (by omega), ← p6.2.1]
    refine tR_so (fun x j hx => ld_st_ne ?_)
    rw [p6.2.1, ← k0]
    by_cases y : x = a
    · exact Or.inr (fun u => hx ⟨by omega, u⟩)
    · exact Or.inl y
  refine ⟨wg, PR_mk p wg (fun j => ld_st_ne (Or.inl (by omega))) (fun j => ld_st_ne (Or.inl (by omega))) eT p6.2.2.1 p6.2.2.2.1 (fun _ _ _ => rfl) p.2.2.2.2.2.2.2.2.2.2.2.2.2.2.2.2.1 p.2.2.2.2.2.2.2.2.2.2.2.2.2.2.2.2.2.2 (fun x j hx => ld_st_ne (Or.inl (by omega))) (ld_st_ne (Or.inl (by omega))) (ld_st_ne (Or.inl (by omega))) ((ld_st_ne (Or.inl (by omega))).trans p.2.2.2.2.2.2.1)⟩
theorem ki_f65 (w : WF h) (q : ¬ ld h 311 30 = 0) (d : Nat) : ∃ h', V (d + 1) 160 65 [(2, 311), (9, 0)] [] h = some ((9, 0), h') ∧ FrX h h' ∧ ld h' 311 30 = ld h 311 30 ∧ ld h' 311 31 = ld h 311 31 := by
  refine ⟨_, by rw [e160_65, if_pos (F_a311 w), Cl_eq _ (rk_148f w q d), if_pos (F_a311 w), Cl_eq _ (rk_156 w (x := 3) (by decide) d), e160_74], FrX_in (wf_st w (n313 _)) (by decide) (by decide), ld_st_ne (Or.inl (by decide)), ld_st_ne (Or.inl (by decide))⟩
theorem ki_f51 (w : WF h) (q : ¬ ld h 311 30 = 0) {c : Int} (hc : 0 ≤ c ∧ c < 3) (d : Nat) : ∃ h', V (d + 3) 160 51 [(2, 311), (0, 3 + c)] [] h = some ((9, 0), h') ∧ FrX h h' ∧ ld h' 311 30 = ld h 311 30 ∧ ld h' 311 31 = ld h 311 31 := by
  have w1 : WF (st h 327 (3 + c) 0) := wf_st w (npt_A (by decide +kernel) _)
  have g : ∀ j, ld (st h 327 (3 + c) 0) 311 j = ld h 311 j := fun j => ld_st_ne (Or.inl (by decide))
  obtain ⟨h', a1, f1, e1, e2⟩ := ki_f65 w1 (by rw [g]; exact q) (d + 2)
  refine ⟨h', ?_, FrX_tr (FrX_in w1 (by decide) (by rw [show hfA 327 = 3 by decide]; omega)) f1, e1.trans (g 30), e2.trans (g 31)⟩
  rw [e160_51, if_pos (F_a311 w), Cl_eq _ (rk_148f w q (d + 2)), if_pos (F_a311 w), if_pos (F_a311 w), Cl_eq _ (rk_154f w q d), P_311_17 w, if_pos (W_a327 w), L_a327 w, if_pos (by omega), a1]
theorem ki_f24 (w : WF h) (q : ¬ ld h 311 30 = 0) {c : Int} (hc : 0 ≤ c ∧ c < 3) (d : Nat) : ∃ h', V (d + 3) 160 24 [(2, 311), (0, 3 + c)] [] h = some ((9, 0), h') ∧ FrX h h' ∧ ld h' 311 30 = ld h 311 30 ∧ ld h' 311 31 = ld h 311 31 := by
  obtain ⟨h', a1, f1⟩ := ki_f51 w q hc d
  exact ⟨h', by rw [e160_24, if_pos (F_a311 w), if_neg q, a1], f1⟩
theorem ki_f10 (w : WF h) (q : ¬ ld h 311 30 = 0) {c : Int} (hc : 0 ≤ c ∧ c < 3) (d : Nat) : ∃ h', V (d + 3) 160 10 [(2, 311), (0, 3 + c)] [] h = some ((9, 0), h') ∧ FrX h h' ∧ ld h' 311 30 = ld h 311 30 ∧ ld h' 311 31 = ld h 311 31 := by
  have w1 : WF (st h 326 (3 + c) 0) := wf_st w (npt_A (by decide +kernel) _)
  have g : ∀ j, ld (st h 326 (3 + c) 0) 311 j = ld h 311 j := fun j => ld_st_ne (Or.inl (by decide))
  obtain ⟨h', a1, f1, e1, e2⟩ := ki_f24 w1 (by rw [g]; exact q) hc d
  refine ⟨h', ?_, FrX_tr (FrX_in w1 (by decide) (by rw [show hfA 326 = 3 by decide]; omega)) f1, e1.trans (g 30), e2.trans (g 31)⟩
  rw [e160_10, if_pos (F_a311 w), Cl_eq _ (rk_148f w q (d + 2)), if_pos (F_a311 w), if_pos (F_a311 w), Cl_eq _ (rk_153f w q d), P_311_16 w, if_pos (W_a326 w), L_a326 w, if_pos (by omega), a1]
def kiR (tp : Int → Int) (n : Int) (T : Wd) (tw hl kn p1 : Int) : LnR :=
  if ¬ nxk (tkn tp n p1) (tSitr T (wL tp n p1)) = 0 then .error (nxk (tkn tp n p1) (tSitr T (wL tp n p1)), p1) else
  if ¬ nxk (tkn tp n (adv tp n p1)) (tSitr T (wL tp n (adv tp n p1))) = 0 then .error (nxk (tkn tp n (adv tp n p1)) (tSitr T (wL tp n (adv tp n p1))), adv tp n p1) else
  if tSitr T (wL tp n p1) = tSitr T (wL tp n (adv tp n p1)) then .error (5, adv tp n p1) else
  if ¬ nxk (tkn tp n (adv tp n (adv tp n p1))) (tFeat T (wL tp n (adv tp n (adv tp n p1)))) = 0 then .error (nxk (tkn tp n (adv tp n (adv tp n p1))) (tFeat T (wL tp n (adv tp n (adv tp n p1)))), adv tp n (adv tp n p1)) else
  .ok (tKin T (tSitr T (wL tp n p1)) (tSitr T (wL tp n (adv tp n p1))) (tFeat T (wL tp n (adv tp n (adv tp n p1)))), tw, hl, kn, adv tp n (adv tp n (adv tp n p1)))
theorem rk_160 (p : PR h tp n pl T tw hl kn op ln) (h3 : T 3 0 < 3) (d : Nat) : ∃ h', C (d + 7) 160 [(2, 311), (0, 3 + T 3 0)] h = some ((9, 0), h') ∧ FrX h h' ∧ LO tp n op ln h' (kiR tp n T tw hl kn pl) := by
  have w := p.1.1
  have hT := p.2.2.2.2.2.1.K
  have t0 := hT.1
  have t1 := hT.2.1
  have t3 := hT.2.2.2.1
  have hc : 0 ≤ T 3 0 ∧ T 3 0 < 3 := ⟨t3.1, h3⟩
  have r1 := rk_153 p (d + 3)
  unfold kiR
  by_cases q1 : nxk (tkn tp n pl) (tSitr T (wL tp n pl)) = 0
  · have hs := nxk_in q1
    rw [if_pos q1] at r1
    rw [if_neg (fun u => u q1)]
    generalize tSitr T (wL tp n pl) = s at *
    obtain ⟨wA, pA⟩ := PR_so p (a := 325) (v := s) (by decide)
    have fA : FrX h (st h 325 (3 + T 3 0) s) := FrX_in wA (by decide) (by rw [show hfA 325 = 3 by decide]; omega)
    have e10 : C (d + 7) 160 [(2, 311), (0, 3 + T 3 0)] h = V (d + 7) 160 10 [(2, 311), (0, 3 + T 3 0)] [] (st h 325 (3 + T 3 0) s) := by
      rw [ce_160, e160_0, if_pos (F_a311 w), if_pos (F_a311 w), Cl_eq _ r1, P_311_15 w, if_pos (W_a325 w), L_a325 w, if_pos (by omega)]
    rw [e10]
    have cA : ld (st h 325 (3 + T 3 0) s) 325 (3 + T 3 0) = s := ld_st_eq _ _ _ _
    generalize st h 325 (3 + T 3 0) s = hA at *
    obtain ⟨hB, aB, fB, pB⟩ := rk_148p pA d
    have wB := fB.1
    have r2 := rk_153 pB (d + 3)
    have cB : ld hB 325 (3 + T 3 0) = s := (fB.2.2 325 _ (by omega)).trans cA
    have fhB := FrX_tr fA (FrX_L fB)
    rw [e160_10, if_pos (F_a311 wA), Cl_eq _ aB, if_pos (F_a311 wB), if_pos (F_a311 wB), P_311_16 wB]
    generalize adv tp n pl = pl1 at *
    by_cases q2 : nxk (tkn tp n pl1) (tSitr T (wL tp n pl1)) = 0
    · have ht := nxk_in q2
      rw [if_pos q2] at r2
      rw [if_neg (fun u => u q2)]
      generalize tSitr T (wL tp n pl1) = t at *
      obtain ⟨wC, pC⟩ := PR_so pB (a := 326) (v := t) (by decide)
      have fC : FrX h (st hB 326 (3 + T 3 0) t) := FrX_tr fhB (FrX_in wC (by decide) (by rw [show hfA 326 = 3 by decide]; omega))
      have c25 : ld (st hB 326 (3 + T 3 0) t) 325 (3 + T 3 0) = s := (ld_st_ne (Or.inl (by decide))).trans cB
      have c26 : ld (st hB 326 (3 + T 3 0) t) 326 (3 + T 3 0) = t := ld_st_eq _ _ _ _
      rw [Cl_eq _ r2, if_pos (W_a326 wB), L_a326 wB, if_pos (by omega)]
      generalize st hB 326 (3 + T 3 0) t = hC at *
      have wC := pC.1.1
      rw [e160_24, if_pos (F_a311 wC), pC.2.2.2.1, if_pos rfl, if_pos (F_a311 wC), P_311_15 wC, if_pos (F_a325 wC), L_a325 wC, if_pos (by omega), if_pos (F_a311 wC), P_311_16 wC, if_pos (F_a326 wC), L_a326 wC, if_pos (by omega), c25, c26]
      by_cases q3 : s = t
      · have wf := flt_w wC 5 pl1
        obtain ⟨h', a', f', g1, g2⟩ := ki_f51 wf (by rw [flt_30]; decide) hc (d + 4)
        rw [if_pos q3, if_pos q3]
        refine ⟨h', ?_, FrX_tr fC (FrX_tr (flt_F wC 5 pl1) f'), by decide, by rw [g1, flt_30], by rw [g2, flt_31]⟩
        rw [e160_46, if_pos (F_a311 wC), Cl_eq _ (rk_145p pC.pp 5 (d + 6)), a']
      · obtain ⟨hD, aD, fD, pD⟩ := rk_148p pC d
        have wD := fD.1
        have r3 := rk_154 pD (d + 3)
        rw [if_neg q3, if_neg q3, e160_51, if_pos (F_a311 wC), Cl_eq _ aD, if_pos (F_a311 wD), if_pos (F_a311 wD), P_311_17 wD]
        generalize adv tp n pl1 = pl2 at *
        by_cases q4 : nxk (tkn tp n pl2) (tFeat T (wL tp n pl2)) = 0
        · have hf := nxk_inF q4
          rw [if_pos q4] at r3
          rw [if_neg (fun u => u q4)]
          generalize tFeat T (wL tp n pl2) = f at *
          obtain ⟨wE, pE⟩ := PR_so pD (a := 327) (v := f) (by decide)
          have fE : FrX h (st hD 327 (3 + T 3 0) f) := FrX_tr fC (FrX_tr (FrX_L fD) (FrX_in wE (by decide) (by rw [show hfA 327 = 3 by decide]; omega)))
          have d25 : ld (st hD 327 (3 + T 3 0) f) 325 (3 + T 3 0) = s := (ld_st_ne (Or.inl (by decide))).trans ((fD.2.2 325 _ (by omega)).trans c25)
          have d26 : ld (st hD 327 (3 + T 3 0) f) 326 (3 + T 3 0) = t := (ld_st_ne (Or.inl (by decide))).trans ((fD.2.2 326 _ (by omega)).trans c26)
          have d27 : ld (st hD 327 (3 + T 3 0) f) 327 (3 + T 3 0) = f := ld_st_eq _ _ _ _
          rw [Cl_eq _ r3, if_pos (W_a327 wD), L_a327 wD, if_pos (by omega)]
          generalize st hD 327 (3 + T 3 0) f = hE at *
          obtain ⟨hF, aF, fF, pF⟩ := rk_148p pE d
          have wF := fF.1
          have x25 := (fF.2.2 325 (3 + T 3 0) (by omega)).trans d25
          have x26 := (fF.2.2 326 (3 + T 3 0) (by omega)).trans d26
          have x27 := (fF.2.2 327 (3 + T 3 0) (by omega)).trans d27
          have c3 := (PR_c0 pF).2.2.2
          have r156 := rk_156 wF (x := 3) (by decide) (d + 6)
          rw [show (7 : Int) + 3 = 10 by decide, c3, show w32 (T 3 0 + 1) = T 3 0 + 1 by unfold w32; omega] at r156
          have wG : WF (st hF 313 10 (T 3 0 + 1)) := wf_st wF (n313 _)
          have p6 := pF.2.2.2.2.2.1
          have i3 := p6.2.2.2.1
          have k0 : ld (shf hF) 313 3 = T 3 0 := rt3 p6
          have cell : ∀ (a v : Int), (325 ≤ a ∧ a ≤ 327) → ld hF a (3 + T 3 0) = v → ∀ j, ld (shf (st hF 313 10 (T 3 0 + 1))) a j = if j = ld (shf hF) 313 3 then v else ld (shf hF) a j := fun a v ha ev j => by
            have hA : hfA a = 3 := by
              have : a = 325 ∨ a = 326 ∨ a = 327 := by omega
              rcases this with rfl | rfl | rfl <;> decide
            rw [k0, shf_in _ (by omega), shf_in _ (by omega), hA, ld_st_ne (Or.inl (by omega))]
            by_cases y : j = T 3 0
            · rw [if_pos y, y, Int.add_comm (T 3 0) 3, ev]
            · rw [if_neg y]
          have eT := tR_tKin (g := shf hF) (g1 := shf (st hF 313 10 (T 3 0 + 1))) (u := s) (v := t) (x := f) (by rw [k0]; omega) (by rw [k0, shf_in _ (by decide), show (3 : Int) + hfA 313 = 10 by decide, ld_st_eq]) (fun j hj => by rw [shf_in _ (by decide), shf_in _ (by decide), show hfA 313 = 7 by decide, ld_st_ne (Or.inr (by omega))]) (cell 325 s (by decide) x25) (cell 326 t (by decide) x26) (cell 327 f (by decide) x27) (fun a j e1 e2 e3 => by rw [shf_in _ (by omega), shf_in _ (by omega), ld_st_ne (Or.inl (by omega))])
          rw [p6.2.1] at eT
          refine ⟨st hF 313 10 (T 3 0 + 1), ?_, FrX_tr fE (FrX_tr (FrX_L fF) (FrX_in wG (by decide) (by decide))), ?_⟩
          · rw [e160_65, if_pos (F_a311 pE.1.1), Cl_eq _ aF, if_pos (F_a311 wF), Cl_eq _ r156, e160_74]
          · exact PR_mk pF wG (fun j => ld_st_ne (Or.inl (by decide))) (fun j => ld_st_ne (Or.inl (by decide))) eT (TOK_kin hT h3 s t f) (I32_kin i3 hc (I32_of (by omega)) (I32_of (by omega)) (I32_of (by omega))) (fun x hx _ => funext fun i => by unfold tKin; rw [if_neg (by omega), if_neg (by omega), if_neg (by omega), if_neg (by omega)]) pF.2.2.2.2.2.2.2.2.2.2.2.2.2.2.2.2.1 (TX_eq pF.2.2.2.2.2.2.2.2.2.2.2.2.2.2.2.2.2.2 (fun x hx => funext fun i => by unfold tKin; rw [if_neg (by omega), if_neg (by omega), if_neg (by omega), if_neg (by omega)])) (fun a j ha => ld_st_ne (Or.inl (by omega))) (ld_st_ne (Or.inr (by decide))) (ld_st_ne (Or.inr (by decide))) ((ld_st_ne (Or.inr (by decide))).trans pF.2.2.2.2.2.2.1)
        · have wf := flt_w wD (nxk (tkn tp n pl2) (tFeat T (wL tp n pl2))) pl2
          rw [if_neg q4] at r3
          have wg : WF (st (flt hD (nxk (tkn tp n pl2) (tFeat T (wL tp n pl2))) pl2) 327 (3 + T 3 0) 0) := wf_st wf (npt_A (by decide +kernel) _)
          have g : ∀ j, ld (st (flt hD (nxk (tkn tp n pl2) (tFeat T (wL tp n pl2))) pl2) 327 (3 + T 3 0) 0) 311 j = ld (flt hD (nxk (tkn tp n pl2) (tFeat T (wL tp n pl2))) pl2) 311 j := fun j => ld_st_ne (Or.inl (by decide))
          obtain ⟨h', a', f', g1, g2⟩ := ki_f65 wg (by rw [g, flt_30]; exact q4) (d + 6)
          rw [if_pos q4]
          refine ⟨h', ?_, FrX_tr fC (FrX_tr (FrX_L fD) (FrX_tr (flt_F wD _ _) (FrX_tr (FrX_in wg (by decide) (by rw [show hfA 327 = 3 by decide]; omega)) f'))), q4, by rw [g1, g, flt_30], by rw [g2, g, flt_31]⟩
          rw [Cl_eq _ r3, if_pos (W_a327 wf), L_a327 wf, if_pos (by omega), a']
    · have wf := flt_w wB (nxk (tkn tp n pl1) (tSitr T (wL tp n pl1))) pl1
      rw [if_neg q2] at r2
      have wg : WF (st (flt hB (nxk (tkn tp n pl1) (tSitr T (wL tp n pl1))) pl1) 326 (3 + T 3 0) 0) := wf_st wf (npt_A (by decide +kernel) _)
      have g : ∀ j, ld (st (flt hB (nxk (tkn tp n pl1) (tSitr T (wL tp n pl1))) pl1) 326 (3 + T 3 0) 0) 311 j = ld (flt hB (nxk (tkn tp n pl1) (tSitr T (wL tp n pl1))) pl1) 311 j := fun j => ld_st_ne (Or.inl (by decide))
      obtain ⟨h', a', f', g1, g2⟩ := ki_f24 wg (by rw [g, flt_30]; exact q2) hc (d + 4)
      rw [if_pos q2]
      refine ⟨h', ?_, FrX_tr fhB (FrX_tr (flt_F wB _ _) (FrX_tr (FrX_in wg (by decide) (by rw [show hfA 326 = 3 by decide]; omega)) f')), q2, by rw [g1, g, flt_30], by rw [g2, g, flt_31]⟩
      rw [Cl_eq _ r2, if_pos (W_a326 wf), L_a326 wf, if_pos (by omega), a']
  · have wf := flt_w w (nxk (tkn tp n pl) (tSitr T (wL tp n pl))) pl
    rw [if_neg q1] at r1
    have wg : WF (st (flt h (nxk (tkn tp n pl) (tSitr T (wL tp n pl))) pl) 325 (3 + T 3 0) 0) := wf_st wf (npt_A (by decide +kernel) _)
    have g : ∀ j, ld (st (flt h (nxk (tkn tp n pl) (tSitr T (wL tp n pl))) pl) 325 (3 + T 3 0) 0) 311 j = ld (flt h (nxk (tkn tp n pl) (tSitr T (wL tp n pl))) pl) 311 j := fun j => ld_st_ne (Or.inl (by decide))
    obtain ⟨h', a', f', g1, g2⟩ := ki_f10 wg (by rw [g, flt_30]; exact q1) hc (d + 4)
    rw [if_pos q1]
    refine ⟨h', ?_, FrX_tr (flt_F w _ _) (FrX_tr (FrX_in wg (by decide) (by rw [show hfA 325 = 3 by decide]; omega)) f'), q1, by rw [g1, g, flt_30], by rw [g2, g, flt_31]⟩
    rw [ce_160, e160_0, if_pos (F_a311 w), if_pos (F_a311 w), Cl_eq _ r1, P_311_15 w, if_pos (W_a325 wf), L_a325 wf, if_pos (by omega), a']
end KN
