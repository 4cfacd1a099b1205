/-! layer 2: the plain program reads an heir -/
section HE
variable {h h' : Hp} {tp : Int → Int} {n pl : Int} {T : Wd} {tw hl kn op ln : Int}
theorem rk_153f (w : WF h) (q : ¬ ld h 311 30 = 0) (d : Nat) : C (d + 2) 153 [(2, 311)] h = some ((0, 0), h) := by
  rw [ce_153, e153_0, if_pos (F_a311 w), if_pos (F_a311 w), P_311_7 w, Cl_eq _ (rk_155 w (x := 1) (by decide) (d + 1)), if_pos (F_a311 w), Cl_eq _ (rk_152f w q 317 5 _ (d + 1))]
theorem nxk_in {T : Wd} {t l : Int} (q : nxk t (tSitr T l) = 0) : 0 ≤ tSitr T l ∧ tSitr T l < (T 1 0).toNat := by
  unfold nxk at q
  unfold tSitr at q ⊢
  rcases fnd_rng (f := fun k => decide (T 7 k = l)) (T 1 0).toNat 0 with u | ⟨u1, u2, -⟩
  · rw [u] at q; split at q <;> omega
  · omega
def heR (tp : Int → Int) (n : Int) (T : Wd) (tw hl kn p1 : Int) : LnR :=
  if ¬ nxk (tkn tp n p1) (tSitr T (wL tp n p1)) = 0 then .error (nxk (tkn tp n p1) (tSitr T (wL tp n p1)), p1) else
  if ¬ T 11 (tSitr T (wL tp n p1)) = -1 then .error (3, p1) else
  if ¬ nxk (tkn tp n (adv tp n p1)) (tSitr T (wL tp n (adv tp n p1))) = 0 then .error (nxk (tkn tp n (adv tp n p1)) (tSitr T (wL tp n (adv tp n p1))), adv tp n p1) else
  if tSitr T (wL tp n p1) = tSitr T (wL tp n (adv tp n p1)) then .error (5, adv tp n p1) else
  .ok (up2 T 11 (tSitr T (wL tp n p1)) (tSitr T (wL tp n (adv tp n p1))), tw, hl, kn, adv tp n (adv tp n p1))
theorem he_f (w : WF h) (q : ¬ ld h 311 30 = 0) (x1 : Int) (d : Nat) : V (d + 3) 162 29 [(2, 311), (0, x1), (9, 0)] [] h = some ((9, 0), h) := by
  rw [e162_29, if_pos (F_a311 w), Cl_eq _ (rk_148f w q (d + 2)), if_pos (F_a311 w), Cl_eq _ (rk_153f w q d), e162_38, if_pos (F_a311 w), if_neg q, e162_55, if_pos (F_a311 w), if_neg q]
theorem rk_162 (p : PR h tp n pl T tw hl kn op ln) (hT2 : ∀ s t : Int, (0 ≤ s ∧ s < T 1 0) → (0 ≤ t ∧ t < T 1 0) → ¬ s = t → TOK (up2 T 11 s t) ∧ ∀ f i, I32 (up2 T 11 s t f i)) (d : Nat) : ∃ h', C (d + 7) 162 [(2, 311)] h = some ((9, 0), h') ∧ FrX h h' ∧ LO tp n op ln h' (heR tp n T tw hl kn pl) := by
  have w := p.1.1
  have hT := p.2.2.2.2.2.1.K
  have t1 := hT.2.1
  have r1 := rk_153 p (d + 3)
  unfold heR
  by_cases q1 : nxk (tkn tp n pl) (tSitr T (wL tp n pl)) = 0
  · have hs := nxk_in q1
    rw [if_pos q1] at r1
    rw [if_neg (fun u => u q1)]
    generalize tSitr T (wL tp n pl) = s at *
    have e11 : ld h 321 (5 + s) = T 11 s := by
      have := rt11 p.2.2.2.2.2.1 (i := s) ⟨hs.1, by omega⟩
      rw [shf_in _ (by decide), show s + hfA 321 = 5 + s by rw [show hfA 321 = 5 by decide]; omega] at this
      exact this
    have ws : w32 (5 + s) = 5 + s := by unfold w32; omega
    have e0 : C (d + 7) 162 [(2, 311)] h = if ld h 321 (5 + s) = -1 then V (d + 7) 162 29 [(2, 311), (0, s), (9, 0)] [] h else V (d + 7) 162 24 [(2, 311), (0, s), (9, 0)] [] h := by
      rw [ce_162, e162_0, if_pos (F_a311 w), Cl_eq _ r1, if_pos (F_a311 w), p.2.2.2.1, if_pos rfl, e162_12, if_pos (F_a311 w), P_311_11 w, ws, if_pos (F_a321 w), L_a321 w, if_pos (by omega)]
    rw [e0, e11]
    by_cases q2 : T 11 s = -1
    · obtain ⟨h1, a1, f1, p1⟩ := rk_148p p d
      have w1 := f1.1
      have r2 := rk_153 p1 (d + 3)
      rw [if_pos q2, if_neg (fun u => u q2)]
      by_cases q3 : nxk (tkn tp n (adv tp n pl)) (tSitr T (wL tp n (adv tp n pl))) = 0
      · have ht := nxk_in q3
        rw [if_pos q3] at r2
        rw [if_neg (fun u => u q3)]
        generalize tSitr T (wL tp n (adv tp n pl)) = t at *
        have e38 : V (d + 7) 162 29 [(2, 311), (0, s), (9, 0)] [] h = if s = t then V (d + 7) 162 50 [(2, 311), (0, s), (0, t)] [] h1 else V (d + 7) 162 55 [(2, 311), (0, s), (0, t)] [] h1 := by
          rw [e162_29, if_pos (F_a311 w), Cl_eq _ a1, if_pos (F_a311 w1), Cl_eq _ r2, e162_38, if_pos (F_a311 w1), p1.2.2.2.1, if_pos rfl]
        rw [e38]
        by_cases q4 : s = t
        · have wf := flt_w w1 5 (adv tp n pl)
          rw [if_pos q4, if_pos q4]
          refine ⟨flt h1 5 (adv tp n pl), ?_, FrX_tr (FrX_L f1) (flt_F w1 _ _), by decide, flt_30 _ _ _, flt_31 _ _ _⟩
          rw [e162_50, if_pos (F_a311 w1), Cl_eq _ (rk_145p p1.pp 5 (d + 6)), e162_55, if_pos (F_a311 wf), flt_30, if_neg (by decide)]
        · rw [if_neg q4, if_neg q4]
          have wg : WF (st h1 321 (5 + s) t) := wf_st w1 (npt_A (by decide +kernel) _)
          obtain ⟨k1, k2⟩ := hT2 s t ⟨hs.1, by omega⟩ ⟨ht.1, by omega⟩ q4
          obtain ⟨p1', p2, p3, p4, p5, p6, p7, p8, p9, p10, p11, p12, p13, p14⟩ := id p1
          have pe := PP_st p1.pp wg (by decide)
          have g : ∀ a j, a ≠ 321 → ld (st h1 321 (5 + s) t) a j = ld h1 a j := fun a j e => ld_st_ne (Or.inl e)
          have k0 : ld (shf h1) 313 1 = T 1 0 := rt1 p6
          have eT := tR_u11 (g := shf h1) (g1 := shf (st h1 321 (5 + s) t)) (s := s) (t := t) ⟨hs.1, by rw [k0]; omega⟩ (fun j _ => by rw [shf_in _ (by decide), shf_in _ (by decide), g _ _ (by decide)]) (fun j => by
            rw [shf_in _ (by decide), shf_in _ (by decide), show hfA 321 = 5 by decide, ld_up]
            by_cases y : j = s
            · rw [if_pos y, if_pos (by omega)]
            · rw [if_neg y, if_neg (by omega)]) (fun a j e1 e2 e3 => by rw [shf_in _ (by omega), shf_in _ (by omega), g _ _ e3])
          rw [p6.2.1] at eT
          have pn : PR (st h1 321 (5 + s) t) tp n (adv tp n pl) (up2 T 11 s t) tw hl kn op ln := by
            refine ⟨pe.1, pe.2.1, pe.2.2.1, pe.2.2.2.1, pe.2.2.2.2, ⟨shf_wf wg, eT, k1, k2, fun k k0 k3 => ?_, ?_⟩, (g 313 11 (by decide)).trans p7, by rw [g 311 23 (by decide)]; exact p8, fun k hk => ?_, by rw [g 311 23 (by decide)]; exact p10, (g 311 35 (by decide)).trans p11, (g 311 34 (by decide)).trans p12, (g 311 24 (by decide)).trans p13, KC_eq p14 (g 313 13 (by decide)) (fun j => g 330 j (by decide)) (fun f h1 h2 => Or.inr (funext fun i => by unfold up2; rw [if_neg (by omega)])) p14.2.2.2.1 (Or.inl rfl) (TX_eq p14.2.2.2.2.2 (fun f hf => funext fun i => by unfold up2; rw [if_neg (by omega)]))⟩
            · have := p6.2.2.2.2.1 k k0 k3
              rw [shf_in _ (by decide), shf_in _ (by decide)] at this ⊢
              rw [g _ _ (by decide), g _ _ (by decide)]; exact this
            · have := p6.2.2.2.2.2
              rw [shf_in _ (by decide)] at this ⊢
              rw [g _ _ (by decide)]; exact this
            · rw [g 311 23 (by decide), p9 k hk]
              have : up2 T 11 s t (19 + k) 0 = T (19 + k) 0 := by unfold up2; rw [if_neg (by omega)]
              rw [this]
          obtain ⟨h2, a2, f2, pz⟩ := PR_adv pn (d + 1)
          refine ⟨h2, ?_, FrX_tr (FrX_L f1) (FrX_tr (FrX_in wg (by decide) (by rw [show hfA 321 = 5 by decide]; omega)) (FrX_L f2)), pz⟩
          rw [e162_55, if_pos (F_a311 w1), p4, if_pos rfl, e162_63, if_pos (F_a311 w1), P_311_11 w1, ws, if_pos (W_a321 w1), L_a321 w1, if_pos (by omega), e162_72, if_pos (F_a311 wg), Cl_eq _ a2]
      · have wf := flt_w w1 (nxk (tkn tp n (adv tp n pl)) (tSitr T (wL tp n (adv tp n pl)))) (adv tp n pl)
        rw [if_neg q3] at r2
        rw [if_pos q3]
        refine ⟨_, ?_, FrX_tr (FrX_L f1) (flt_F w1 _ _), q3, flt_30 _ _ _, flt_31 _ _ _⟩
        rw [e162_29, if_pos (F_a311 w), Cl_eq _ a1, if_pos (F_a311 w1), Cl_eq _ r2, e162_38, if_pos (F_a311 wf), flt_30, if_neg q3, e162_55, if_pos (F_a311 wf), flt_30, if_neg q3]
    · have wf := flt_w w 3 pl
      rw [if_neg q2, if_pos q2]
      refine ⟨flt h 3 pl, ?_, flt_F w _ _, by decide, flt_30 _ _ _, flt_31 _ _ _⟩
      rw [e162_24, if_pos (F_a311 w), Cl_eq _ (rk_145p p.pp 3 (d + 6)), he_f wf (by rw [flt_30]; decide) s (d + 4)]
  · have wf := flt_w w (nxk (tkn tp n pl) (tSitr T (wL tp n pl))) pl
    rw [if_neg q1] at r1
    rw [if_pos q1]
    refine ⟨_, ?_, flt_F w _ _, q1, flt_30 _ _ _, flt_31 _ _ _⟩
    rw [ce_162, e162_0, if_pos (F_a311 w), Cl_eq _ r1, if_pos (F_a311 wf), flt_30, if_neg q1, he_f wf (by rw [flt_30]; exact q1) _ (d + 4)]
end HE
