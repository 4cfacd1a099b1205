/-! layer 2: the plain program reads twins -/
section TW
variable {h h' : Hp} {tp : Int → Int} {n pl : Int} {T : Wd} {tw hl kn op ln : Int}
def twR (tp : Int → Int) (n : Int) (T : Wd) (tw hl kn p1 : Int) : LnR :=
  if ¬ nxk (tkn tp n p1) (tSitr T (wL tp n p1)) = 0 then .error (nxk (tkn tp n p1) (tSitr T (wL tp n p1)), p1) else
  if ¬ T 10 (tSitr T (wL tp n p1)) = -1 then .error (3, p1) else
  if ¬ nxk (tkn tp n (adv tp n p1)) (tSitr T (wL tp n (adv tp n p1))) = 0 then .error (nxk (tkn tp n (adv tp n p1)) (tSitr T (wL tp n (adv tp n p1))), adv tp n p1) else
  if ¬ T 10 (tSitr T (wL tp n (adv tp n p1))) = -1 then .error (3, adv tp n p1) else
  if tSitr T (wL tp n p1) = tSitr T (wL tp n (adv tp n p1)) then .error (5, adv tp n p1) else
  .ok (up2 (up2 T 10 (tSitr T (wL tp n p1)) (tSitr T (wL tp n (adv tp n p1)))) 10 (tSitr T (wL tp n (adv tp n p1))) (tSitr T (wL tp n p1)), tw + 1, hl, kn, adv tp n (adv tp n p1))
theorem tw_f62 (w : WF h) (q : ¬ ld h 311 30 = 0) (x1 x2 : Int) (d : Nat) : V d 161 62 [(2, 311), (0, x1), (0, x2)] [] h = some ((9, 0), h) := by
  rw [e161_62, if_pos (F_a311 w), if_neg q, e161_79, if_pos (F_a311 w), if_neg q]
theorem tw_f29 (w : WF h) (q : ¬ ld h 311 30 = 0) (x1 : Int) (d : Nat) : V (d + 3) 161 29 [(2, 311), (0, x1), (9, 0)] [] h = some ((9, 0), h) := by
  rw [e161_29, if_pos (F_a311 w), Cl_eq _ (rk_148f w q (d + 2)), if_pos (F_a311 w), Cl_eq _ (rk_153f w q d), e161_38, if_pos (F_a311 w), if_neg q, tw_f62 w q]
theorem tw_10 (p : PR h tp n pl T tw hl kn op ln) {s : Int} (hs : 0 ≤ s ∧ s < T 1 0) : ld h 320 (5 + s) = T 10 s := by
  have := rt10 p.2.2.2.2.2.1 (i := s) hs
  rw [shf_in _ (by decide), show s + hfA 320 = 5 + s by rw [show hfA 320 = 5 by decide]; omega] at this
  exact this
theorem rk_161 (p : PR h tp n pl T tw hl kn op ln) (htw : 0 ≤ tw ∧ tw < 2) (d : Nat) : ∃ h', C (d + 7) 161 [(2, 311)] h = some ((9, 0), h') ∧ FrX h h' ∧ LO tp n op ln h' (twR tp n T tw hl kn pl) := by
  have w := p.1.1
  have hT := p.2.2.2.2.2.1.K
  have t1 := hT.2.1
  have r1 := rk_153 p (d + 3)
  unfold twR
  by_cases q1 : nxk (tkn tp n pl) (tSitr T (wL tp n pl)) = 0
  · have hs := nxk_in q1
    rw [if_pos q1] at r1
    rw [if_neg (fun u => u q1)]
    generalize tSitr T (wL tp n pl) = s at *
    have e10 := tw_10 p (s := s) ⟨hs.1, by omega⟩
    have ws : w32 (5 + s) = 5 + s := by unfold w32; omega
    have e0 : C (d + 7) 161 [(2, 311)] h = if ld h 320 (5 + s) = -1 then V (d + 7) 161 29 [(2, 311), (0, s), (9, 0)] [] h else V (d + 7) 161 24 [(2, 311), (0, s), (9, 0)] [] h := by
      rw [ce_161, e161_0, if_pos (F_a311 w), Cl_eq _ r1, if_pos (F_a311 w), p.2.2.2.1, if_pos rfl, e161_12, if_pos (F_a311 w), P_311_10 w, ws, if_pos (F_a320 w), L_a320 w, if_pos (by omega)]
    rw [e0, e10]
    by_cases q2 : T 10 s = -1
    · obtain ⟨h1, a1, f1, p1⟩ := rk_148p p d
      have w1 := f1.1
      have r2 := rk_153 p1 (d + 3)
      rw [if_pos q2, if_neg (fun u => u q2)]
      generalize adv tp n pl = pl1 at *
      by_cases q3 : nxk (tkn tp n pl1) (tSitr T (wL tp n pl1)) = 0
      · have ht := nxk_in q3
        rw [if_pos q3] at r2
        rw [if_neg (fun u => u q3)]
        generalize tSitr T (wL tp n pl1) = t at *
        have wt : w32 (5 + t) = 5 + t := by unfold w32; omega
        have e10t := tw_10 p1 (s := t) ⟨ht.1, by omega⟩
        have e38 : V (d + 7) 161 29 [(2, 311), (0, s), (9, 0)] [] h = if T 10 t = -1 then V (d + 7) 161 62 [(2, 311), (0, s), (0, t)] [] h1 else V (d + 7) 161 57 [(2, 311), (0, s), (0, t)] [] h1 := by
          rw [e161_29, if_pos (F_a311 w), Cl_eq _ a1, if_pos (F_a311 w1), Cl_eq _ r2, e161_38, if_pos (F_a311 w1), p1.2.2.2.1, if_pos rfl, if_pos (F_a311 w1), P_311_10 w1, wt, if_pos (F_a320 w1), L_a320 w1, if_pos (by omega), e10t]
        rw [e38]
        by_cases q5 : T 10 t = -1
        · rw [if_pos q5, if_neg (fun u => u q5), e161_62, if_pos (F_a311 w1), p1.2.2.2.1, if_pos rfl]
          by_cases q4 : s = t
          · have wf := flt_w w1 5 pl1
            rw [if_pos q4, if_pos q4]
            refine ⟨flt h1 5 pl1, ?_, FrX_tr (FrX_L f1) (flt_F w1 _ _), by decide, flt_30 _ _ _, flt_31 _ _ _⟩
            rw [e161_74, if_pos (F_a311 w1), Cl_eq _ (rk_145p p1.pp 5 (d + 6)), e161_79, if_pos (F_a311 wf), flt_30, if_neg (by decide)]
          · rw [if_neg q4, if_neg q4]
            have wA : WF (st h1 320 (5 + s) t) := wf_st w1 (npt_A (by decide +kernel) _)
            have wB : WF (st (st h1 320 (5 + s) t) 320 (5 + t) s) := wf_st wA (npt_A (by decide +kernel) _)
            have c4 : ld h1 313 11 = tw := p1.2.2.2.2.2.2.1
            have r156 := rk_156 wB (x := 4) (by decide) (d + 6)
            rw [show (7 : Int) + 4 = 11 by decide, ld_st_ne (Or.inl (by decide)), ld_st_ne (Or.inl (by decide)), c4, show w32 (tw + 1) = tw + 1 by unfold w32; omega] at r156
            have wC : WF (st (st (st h1 320 (5 + s) t) 320 (5 + t) s) 313 11 (tw + 1)) := wf_st wB (n313 _)
            have p6 := p1.2.2.2.2.2.1
            have k0 : ld (shf h1) 313 1 = T 1 0 := rt1 p6
            have g : ∀ a j, a ≠ 320 → ¬ (a = 313 ∧ j = 11) → ld (st (st (st h1 320 (5 + s) t) 320 (5 + t) s) 313 11 (tw + 1)) a j = ld h1 a j := fun a j e1 e2 => by
              rw [ld_st_ne (by omega), ld_st_ne (Or.inl e1), ld_st_ne (Or.inl e1)]
            have eT1 := tR_u10 (g := shf h1) (g1 := shf (st h1 320 (5 + s) t)) (s := s) (t := t) ⟨hs.1, by rw [k0]; omega⟩ (fun j _ => by rw [shf_in _ (by decide), shf_in _ (by decide), ld_st_ne (Or.inl (by decide))]) (fun j => by
              rw [shf_in _ (by decide), shf_in _ (by decide), show hfA 320 = 5 by decide, ld_up]
              by_cases y : j = s
              · rw [if_pos y, if_pos (by omega)]
              · rw [if_neg y, if_neg (by omega)]) (fun a j e1 e2 e3 => by rw [shf_in _ (by omega), shf_in _ (by omega), ld_st_ne (Or.inl e3)])
            rw [p6.2.1] at eT1
            have eT2 := tR_u10 (g := shf (st h1 320 (5 + s) t)) (g1 := shf (st (st (st h1 320 (5 + s) t) 320 (5 + t) s) 313 11 (tw + 1))) (s := t) (t := s) ⟨ht.1, by rw [shf_in _ (by decide), ld_st_ne (Or.inl (by decide)), ← shf_in _ (by decide), k0]; omega⟩ (fun j hj => by rw [shf_in _ (by decide), shf_in _ (by decide), show hfA 313 = 7 by decide, ld_st_ne (Or.inr (by omega)), ld_st_ne (Or.inl (by decide))]) (fun j => by
              rw [shf_in _ (by decide), shf_in _ (by decide), show hfA 320 = 5 by decide, ld_st_ne (Or.inl (by decide)), ld_up]
              by_cases y : j = t
              · rw [if_pos y, if_pos (by omega)]
              · rw [if_neg y, if_neg (by omega)]) (fun a j e1 e2 e3 => by rw [shf_in _ (by omega), shf_in _ (by omega), ld_st_ne (by omega), ld_st_ne (Or.inl e3)])
            rw [eT1] at eT2
            have i1 := p6.2.2.2.1
            have pn : PR (st (st (st h1 320 (5 + s) t) 320 (5 + t) s) 313 11 (tw + 1)) tp n pl1 (up2 (up2 T 10 s t) 10 t s) (tw + 1) hl kn op ln := by
              refine PR_mk p1 wC (fun j => g 311 j (by decide) (by omega)) (fun j => g 312 j (by decide) (by omega)) eT2 (TOK_twi (TOK_twi hT ⟨ht.1, by omega⟩ q4) (t := s) ⟨hs.1, ?_⟩ (fun u => q4 u.symm)) (I32_up2 (I32_up2 i1 (I32_of (by omega))) (I32_of (by omega))) (fun x hx _ => funext fun i => by unfold up2; rw [if_neg (by omega), if_neg (by omega)]) (by omega) (TX_eq p1.2.2.2.2.2.2.2.2.2.2.2.2.2.2.2.2.2.2 (fun x hx => funext fun i => by unfold up2; rw [if_neg (by omega), if_neg (by omega)])) (fun a j ha => g a j (by omega) (by omega)) (g _ _ (by decide) (by decide)) (g _ _ (by decide) (by decide)) (ld_st_eq _ _ _ _)
              show s < T 1 0
              omega
            obtain ⟨h2, a2, f2, pz⟩ := PR_adv pn (d + 1)
            refine ⟨h2, ?_, FrX_tr (FrX_L f1) (FrX_tr (FrX_in wA (by decide) (by rw [show hfA 320 = 5 by decide]; omega)) (FrX_tr (FrX_in wB (by decide) (by rw [show hfA 320 = 5 by decide]; omega)) (FrX_tr (FrX_in wC (by decide) (by decide)) (FrX_L f2)))), pz⟩
            have wA1 : okW h1 320 0 = true := W_a320 w1
            rw [e161_79, if_pos (F_a311 w1), p1.2.2.2.1, if_pos rfl, e161_87, if_pos (F_a311 w1), P_311_10 w1, ws, if_pos wA1, L_a320 w1, if_pos (by omega), e161_96, if_pos (F_a311 wA), P_311_10 wA, wt, if_pos (W_a320 wA), L_a320 wA, if_pos (by omega), e161_105, if_pos (F_a311 wB), Cl_eq _ r156, if_pos (F_a311 wC), Cl_eq _ a2, e161_114]
        · have wf := flt_w w1 3 pl1
          rw [if_neg q5, if_pos q5]
          refine ⟨flt h1 3 pl1, ?_, FrX_tr (FrX_L f1) (flt_F w1 _ _), by decide, flt_30 _ _ _, flt_31 _ _ _⟩
          rw [e161_57, if_pos (F_a311 w1), Cl_eq _ (rk_145p p1.pp 3 (d + 6)), tw_f62 wf (by rw [flt_30]; decide)]
      · have wf := flt_w w1 (nxk (tkn tp n pl1) (tSitr T (wL tp n pl1))) pl1
        rw [if_neg q3] at r2
        rw [if_pos q3]
        refine ⟨_, ?_, FrX_tr (FrX_L f1) (flt_F w1 _ _), q3, flt_30 _ _ _, flt_31 _ _ _⟩
        rw [e161_29, if_pos (F_a311 w), Cl_eq _ a1, if_pos (F_a311 w1), Cl_eq _ r2, e161_38, if_pos (F_a311 wf), flt_30, if_neg q3, tw_f62 wf (by rw [flt_30]; exact q3)]
    · have wf := flt_w w 3 pl
      rw [if_neg q2, if_pos q2]
      refine ⟨flt h 3 pl, ?_, flt_F w _ _, by decide, flt_30 _ _ _, flt_31 _ _ _⟩
      rw [e161_24, if_pos (F_a311 w), Cl_eq _ (rk_145p p.pp 3 (d + 6)), tw_f29 wf (by rw [flt_30]; decide) s (d + 4)]
  · have wf := flt_w w (nxk (tkn tp n pl) (tSitr T (wL tp n pl))) pl
    rw [if_neg q1] at r1
    rw [if_pos q1]
    refine ⟨_, ?_, flt_F w _ _, q1, flt_30 _ _ _, flt_31 _ _ _⟩
    rw [ce_161, e161_0, if_pos (F_a311 w), Cl_eq _ r1, if_pos (F_a311 wf), flt_30, if_neg q1, tw_f29 wf (by rw [flt_30]; exact q1) _ (d + 4)]
end TW
