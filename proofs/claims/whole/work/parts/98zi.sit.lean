/-! layer 2: the plain program reads a sitter -/
section SL
variable {h h' : Hp} {tp : Int → Int} {n pl : Int} {T : Wd} {tw hl kn op ln : Int}
theorem TX_sit {T : Wd} (tx : TX T) {u v x : Int} (hv : 0 ≤ v ∧ v ≤ 999) (hx : 0 ≤ x ∧ x ≤ 99) : TX (tSit T u v x) := by
  have e19 : ∀ f : Nat, 19 ≤ f → tSit T u v x f = T f := fun f hf => funext fun i => by
    unfold tSit; rw [if_neg (by omega), if_neg (by omega), if_neg (by omega), if_neg (by omega), if_neg (by omega), if_neg (by omega)]
  refine ⟨fun k hk => ?_, fun s h0 h1 => ?_⟩
  · rw [e19 (19 + k) (by omega), e19 (22 + 2 * k) (by omega), e19 (23 + 2 * k) (by omega)]; exact tx.1 k hk
  · have h1 : s < T 1 0 + 1 := h1
    have e8 : tSit T u v x 8 s = if s = T 1 0 then v else T 8 s := by simp [tSit]
    have e9 : tSit T u v x 9 s = if s = T 1 0 then x else T 9 s := by simp [tSit]
    rw [e8, e9]
    by_cases y : s = T 1 0
    · rw [if_pos y, if_pos y]; exact ⟨hv, hx⟩
    · rw [if_neg y, if_neg y]; exact tx.2 s h0 (by omega)
theorem n317 (j : Int) : npt 317 j := npt_A (by decide +kernel) j
theorem n318 (j : Int) : npt 318 j := npt_A (by decide +kernel) j
theorem n319 (j : Int) : npt 319 j := npt_A (by decide +kernel) j
def siR (tp : Int → Int) (n : Int) (T : Wd) (tw hl kn p1 : Int) : LnR :=
  if ¬ tkn tp n p1 = -3 then .error (1, p1) else if ¬ tSitr T (wL tp n p1) = -1 then .error (3, p1) else
  let p2 := adv tp n p1
  if ¬ nck tp n p2 0 999 = 0 then .error (nck tp n p2 0 999, p2) else
  let p3 := adv tp n p2
  if ¬ nck tp n p3 0 99 = 0 then .error (nck tp n p3 0 99, p3) else
  .ok (tSit T (wL tp n p1) (wN tp n p2) (wN tp n p3), tw, hl, kn, adv tp n p3)
theorem si_t (w : WF h) {c : Int} (hc : 0 ≤ c ∧ c < 5) (d : Nat) : ∃ h3, V (d + 1) 158 237 [(2, 311), (9, 0), (9, 0), (0, 5 + c)] [] h = V (d + 1) 158 251 [(2, 311), (9, 0), (9, 0), (9, 0)] [] h3 ∧ WF h3 ∧ FrX h h3 ∧ (∀ a j, a ≠ 320 → a ≠ 321 → ld h3 a j = ld h a j) ∧ (∀ j, ld h3 320 j = if j = 5 + c then -1 else ld h 320 j) ∧ (∀ j, ld h3 321 j = if j = 5 + c then -1 else ld h 321 j) ∧ h3 = st (st h 320 (5 + c) (-1)) 321 (5 + c) (-1) := by
  have w1 : WF (st h 320 (5 + c) (-1)) := wf_st w (npt_A (by decide +kernel) _)
  have w2 : WF (st (st h 320 (5 + c) (-1)) 321 (5 + c) (-1)) := wf_st w1 (npt_A (by decide +kernel) _)
  refine ⟨_, ?_, w2, FrX_tr (FrX_in w1 (by decide) (by rw [show hfA 320 = 5 by decide]; omega)) (FrX_in w2 (by decide) (by rw [show hfA 321 = 5 by decide]; omega)), fun a j e1 e2 => (ld_st_ne (Or.inl e2)).trans (ld_st_ne (Or.inl e1)), fun j => by rw [ld_st_ne (Or.inl (by decide)), ld_up], fun j => by rw [ld_up, ld_st_ne (Or.inl (by decide))], rfl⟩
  rw [e158_237, if_pos (F_a311 w), P_311_10 w, if_pos (W_a320 w), L_a320 w, if_pos (by omega), e158_244, if_pos (F_a311 w1), P_311_11 w1, if_pos (W_a321 w1), L_a321 w1, if_pos (by omega)]
theorem si_3 (w : WF h) (q : ¬ ld h 311 30 = 0) {c : Int} (hc : 0 ≤ c ∧ c < 5) (d : Nat) : ∃ h', V (d + 1) 158 237 [(2, 311), (9, 0), (9, 0), (0, 5 + c)] [] h = V (d + 1) 158 313 [(2, 311), (9, 0), (9, 0), (9, 0)] [] h' ∧ FrX h h' ∧ ld h' 311 30 = ld h 311 30 ∧ ld h' 311 31 = ld h 311 31 := by
  obtain ⟨h3, a1, w3, f3, g3, -⟩ := si_t w hc d
  refine ⟨_, by rw [a1, e158_251, if_pos (F_a311 w3), Cl_eq _ (rk_156 w3 (x := 1) (by decide) d)], FrX_tr f3 (FrX_in (wf_st w3 (n313 _)) (by decide) (by decide)), (ld_st_ne (Or.inl (by decide))).trans (g3 311 30 (by decide) (by decide)), (ld_st_ne (Or.inl (by decide))).trans (g3 311 31 (by decide) (by decide))⟩
theorem si_2 (w : WF h) (q : ¬ ld h 311 30 = 0) {c : Int} (hc : 0 ≤ c ∧ c < 5) (d : Nat) : ∃ h', V (d + 1) 158 224 [(2, 311), (9, 0), (9, 0), (0, 5 + c)] [] h = V (d + 1) 158 313 [(2, 311), (9, 0), (9, 0), (9, 0)] [] h' ∧ FrX h h' ∧ ld h' 311 30 = ld h 311 30 ∧ ld h' 311 31 = ld h 311 31 := by
  have w1 : WF (st h 319 (5 + c) 0) := wf_st w (n319 _)
  have g : ∀ j, ld (st h 319 (5 + c) 0) 311 j = ld h 311 j := fun j => ld_st_ne (Or.inl (by decide))
  obtain ⟨h', a1, f1, e1, e2⟩ := si_3 w1 (by rw [g]; exact q) hc d
  refine ⟨h', ?_, FrX_tr (FrX_in w1 (by decide) (by rw [show hfA 319 = 5 by decide]; omega)) f1, e1.trans (g 30), e2.trans (g 31)⟩
  rw [e158_224, if_pos (F_a311 w), P_311_9 w, if_pos (F_a311 w), Cl_eq _ (rk_149f w q 0 99 d), if_pos (W_a319 w), L_a319 w, if_pos (by omega), a1]
theorem si_1 (w : WF h) (q : ¬ ld h 311 30 = 0) {c : Int} (hc : 0 ≤ c ∧ c < 5) (d : Nat) : ∃ h', V (d + 1) 158 210 [(2, 311), (9, 0), (9, 0), (0, 5 + c)] [] h = V (d + 1) 158 313 [(2, 311), (9, 0), (9, 0), (9, 0)] [] h' ∧ FrX h h' ∧ ld h' 311 30 = ld h 311 30 ∧ ld h' 311 31 = ld h 311 31 := by
  have w1 : WF (st h 318 (5 + c) 0) := wf_st w (n318 _)
  have g : ∀ j, ld (st h 318 (5 + c) 0) 311 j = ld h 311 j := fun j => ld_st_ne (Or.inl (by decide))
  obtain ⟨h', a1, f1, e1, e2⟩ := si_2 w1 (by rw [g]; exact q) hc d
  refine ⟨h', ?_, FrX_tr (FrX_in w1 (by decide) (by rw [show hfA 318 = 5 by decide]; omega)) f1, e1.trans (g 30), e2.trans (g 31)⟩
  rw [e158_210, if_pos (F_a311 w), P_311_8 w, if_pos (F_a311 w), Cl_eq _ (rk_149f w q 0 999 d), if_pos (W_a318 w), L_a318 w, if_pos (by omega), a1]
theorem rk_sit (p : PR h tp n pl T tw hl kn op ln) (h5 : T 1 0 < 5) (d : Nat) : ∃ h', V (d + 7) 158 182 [(2, 311), (9, 0), (9, 0), (9, 0)] [] h = V (d + 7) 158 313 [(2, 311), (9, 0), (9, 0), (9, 0)] [] h' ∧ FrX h h' ∧ LO tp n op ln h' (siR tp n T tw hl kn pl) := by
  have w := p.1.1
  have hT := p.2.2.2.2.2.1.K
  have t0 := hT.2.1
  have c0 := (PR_c0 p).2.1
  have r155 := rk_155 w (x := 1) (by decide) (d + 6)
  rw [show (7 : Int) + 1 = 8 by decide, c0] at r155
  have hc : 0 ≤ T 1 0 ∧ T 1 0 < 5 := ⟨t0.1, h5⟩
  have h319 : hfA 319 = 5 := by decide
  have h318 : hfA 318 = 5 := by decide
  have h317 : hfA 317 = 5 := by decide
  have h313 : hfA 313 = 7 := by decide
  obtain ⟨ok1, no1⟩ := rk_151 p.pp (F_a317 w) (L_a317 w) t0 (fnd_sitr p) d
  have e120 : V (d + 7) 158 182 [(2, 311), (9, 0), (9, 0), (9, 0)] [] h = V (d + 7) 158 190 [(2, 311), (9, 0), (9, 0), (0, 5 + T 1 0)] [] h := by
    rw [e158_182, if_pos (F_a311 w), Cl_eq _ r155, show w32 (5 + T 1 0) = 5 + T 1 0 by unfold w32; omega]
  rw [e120]
  unfold siR
  by_cases q1 : tkn tp n pl = -3 ∧ tSitr T (wL tp n pl) = -1
  · obtain ⟨h1, a1, f1, p1⟩ := ok1 q1.1 q1.2
    have w1 := f1.1
    have wb : WF (st h1 317 (5 + T 1 0) (wL tp n pl)) := wf_st w1 (n317 _)
    have pb := PP_st p1 wb (by decide)
    rw [if_neg (fun u => u q1.1), if_neg (fun u => u q1.2)]
    have e128 : V (d + 7) 158 190 [(2, 311), (9, 0), (9, 0), (0, 5 + T 1 0)] [] h = V (d + 7) 158 210 [(2, 311), (9, 0), (9, 0), (0, 5 + T 1 0)] [] (st h1 317 (5 + T 1 0) (wL tp n pl)) := by
      rw [e158_190, if_pos (F_a311 w), P_311_7 w, if_pos (F_a311 w), if_pos (F_a311 w), Cl_eq _ r155, if_pos (F_a311 w), Cl_eq _ a1, if_pos (W_a317 w1), L_a317 w1, if_pos (by omega)]
    rw [e128]
    have fb : FrX h (st h1 317 (5 + T 1 0) (wL tp n pl)) := FrX_tr (FrX_L f1) (FrX_in wb (by decide) (by rw [h317]; omega))
    generalize hb : st h1 317 (5 + T 1 0) (wL tp n pl) = hB at *
    have bl : ∀ a j, a ≠ 311 → ld hB a j = if a = 317 ∧ j = 5 + T 1 0 then wL tp n pl else ld h a j := fun a j e => by
      rw [← hb]
      by_cases y : a = 317 ∧ j = 5 + T 1 0
      · rw [if_pos y, y.1, y.2, ld_st_eq]
      · rw [if_neg y, ld_st_ne (by omega)]; exact f1.2.2 a j (by omega)
    obtain ⟨ok2, no2⟩ := rk_149 pb (lo := 0) (hi := 999) (by decide) (by decide) d
    by_cases q2 : nck tp n (adv tp n pl) 0 999 = 0
    · obtain ⟨h2, a2, f2, p2, b2⟩ := ok2 q2
      have w2 := f2.1
      have wc : WF (st h2 318 (5 + T 1 0) (wN tp n (adv tp n pl))) := wf_st w2 (n318 _)
      have pc := PP_st p2 wc (by decide)
      have e148 : V (d + 7) 158 210 [(2, 311), (9, 0), (9, 0), (0, 5 + T 1 0)] [] hB = V (d + 7) 158 224 [(2, 311), (9, 0), (9, 0), (0, 5 + T 1 0)] [] (st h2 318 (5 + T 1 0) (wN tp n (adv tp n pl))) := by
        rw [e158_210, if_pos (F_a311 wb), P_311_8 wb, if_pos (F_a311 wb), Cl_eq _ a2, if_pos (W_a318 w2), L_a318 w2, if_pos (by omega)]
      have fc : FrX h (st h2 318 (5 + T 1 0) (wN tp n (adv tp n pl))) := FrX_tr fb (FrX_tr (FrX_L f2) (FrX_in wc (by decide) (by rw [h318]; omega)))
      rw [e148]
      generalize hcc : st h2 318 (5 + T 1 0) (wN tp n (adv tp n pl)) = hC at *
      have cl : ∀ a j, a ≠ 311 → ld hC a j = if a = 318 ∧ j = 5 + T 1 0 then wN tp n (adv tp n pl) else ld hB a j := fun a j e => by
        rw [← hcc]
        by_cases y : a = 318 ∧ j = 5 + T 1 0
        · rw [if_pos y, y.1, y.2, ld_st_eq]
        · rw [if_neg y, ld_st_ne (by omega)]; exact f2.2.2 a j (by omega)
      obtain ⟨ok3, no3⟩ := rk_149 pc (lo := 0) (hi := 99) (by decide) (by decide) d
      dsimp only
      rw [if_neg (fun u => u q2)]
      by_cases q3 : nck tp n (adv tp n (adv tp n pl)) 0 99 = 0
      · obtain ⟨h3, a3, f3, p3, b3⟩ := ok3 q3
        have w3 := f3.1
        have wd : WF (st h3 319 (5 + T 1 0) (wN tp n (adv tp n (adv tp n pl)))) := wf_st w3 (n319 _)
        have pd := PP_st p3 wd (by decide)
        have e161 : V (d + 7) 158 224 [(2, 311), (9, 0), (9, 0), (0, 5 + T 1 0)] [] hC = V (d + 7) 158 237 [(2, 311), (9, 0), (9, 0), (0, 5 + T 1 0)] [] (st h3 319 (5 + T 1 0) (wN tp n (adv tp n (adv tp n pl)))) := by
          rw [e158_224, if_pos (F_a311 wc), P_311_9 wc, if_pos (F_a311 wc), Cl_eq _ a3, if_pos (W_a319 w3), L_a319 w3, if_pos (by omega)]
        have fd : FrX h (st h3 319 (5 + T 1 0) (wN tp n (adv tp n (adv tp n pl)))) := FrX_tr fc (FrX_tr (FrX_L f3) (FrX_in wd (by decide) (by rw [h319]; omega)))
        rw [e161, if_neg (fun u => u q3)]
        generalize hdd : st h3 319 (5 + T 1 0) (wN tp n (adv tp n (adv tp n pl))) = hD at *
        have dl : ∀ a j, a ≠ 311 → ld hD a j = if a = 319 ∧ j = 5 + T 1 0 then wN tp n (adv tp n (adv tp n pl)) else ld hC a j := fun a j e => by
          rw [← hdd]
          by_cases y : a = 319 ∧ j = 5 + T 1 0
          · rw [if_pos y, y.1, y.2, ld_st_eq]
          · rw [if_neg y, ld_st_ne (by omega)]; exact f3.2.2 a j (by omega)
        obtain ⟨hE, a4, wE, fE, gE, eE10, eE11, -⟩ := si_t wd hc (d + 6)
        have pE : PP hE tp n (adv tp n (adv tp n (adv tp n pl))) := by
          obtain ⟨⟨-, c2, c3, c4, c5, c6⟩, p2', p3', p4', p5'⟩ := pd
          have g : ∀ j', ld hE 311 j' = ld hD 311 j' := fun j' => gE 311 j' (by decide) (by decide)
          exact ⟨⟨wE, fun j' j0 j1 => by rw [gE 312 j' (by decide) (by decide)]; exact c2 j' j0 j1, (g 25).trans c3, c4, (g 26).trans c5, c6⟩, (g 27).trans p2', by rw [g 28, g 29]; exact p3', (g 30).trans p4', (g 31).trans p5'⟩
        have all : ∀ a j, a ≠ 311 → ¬ (317 ≤ a ∧ a ≤ 321) → ld hE a j = ld h a j := fun a j e1 e2 => by
          rw [gE a j (by omega) (by omega), dl a j e1, if_neg (by omega), cl a j e1, if_neg (by omega), bl a j e1, if_neg (by omega)]
        have l20 : ∀ j, ld hD 320 j = ld h 320 j := fun j => by
          rw [dl 320 j (by decide), if_neg (by omega), cl 320 j (by decide), if_neg (by omega), bl 320 j (by decide), if_neg (by omega)]
        have l21 : ∀ j, ld hD 321 j = ld h 321 j := fun j => by
          rw [dl 321 j (by decide), if_neg (by omega), cl 321 j (by decide), if_neg (by omega), bl 321 j (by decide), if_neg (by omega)]
        have r156 := rk_156 wE (x := 1) (by decide) (d + 6)
        rw [show (7 : Int) + 1 = 8 by decide, all 313 8 (by decide) (by decide), c0, show w32 (T 1 0 + 1) = T 1 0 + 1 by unfold w32; omega] at r156
        have we : WF (st hE 313 8 (T 1 0 + 1)) := wf_st wE (n313 _)
        refine ⟨st hE 313 8 (T 1 0 + 1), by rw [a4, e158_251, if_pos (F_a311 wE), Cl_eq _ r156], FrX_tr fd (FrX_tr fE (FrX_in we (by decide) (by rw [h313]; omega))), ?_⟩
        have pe := PP_st pE we (by decide)
        have g311 : ∀ j, ¬ (26 ≤ j ∧ j ≤ 29) → ld (st hE 313 8 (T 1 0 + 1)) 311 j = ld h 311 j := fun j hj => by
          rw [ld_st_ne (Or.inl (by decide)), gE 311 j (by decide) (by decide), ← hdd, ld_st_ne (Or.inl (by decide)), f3.2.2 311 j (by omega), ← hcc, ld_st_ne (Or.inl (by decide)), f2.2.2 311 j (by omega), ← hb, ld_st_ne (Or.inl (by decide)), f1.2.2 311 j (by omega)]
        have el : ∀ a j, a ≠ 311 → ¬ (a = 313 ∧ j = 8) → ld (st hE 313 8 (T 1 0 + 1)) a j = ld hE a j := fun a j e1 e2 => ld_st_ne (by omega)
        obtain ⟨-, -, -, -, -, p6, p7, p8, p9, p10, p11, p12, p13, p14⟩ := id p
        have eT : tR (shf h) = T := p6.2.1
        have k0 : ld (shf h) 313 1 = T 1 0 := rt1 p6
        have h320 : hfA 320 = 5 := by decide
        have h321 : hfA 321 = 5 := by decide
        have eT2 : tR (shf (st hE 313 8 (T 1 0 + 1))) = tSit (tR (shf h)) (wL tp n pl) (wN tp n (adv tp n pl)) (wN tp n (adv tp n (adv tp n pl))) := by
          refine tR_tSit (by rw [k0]; exact hc.1) ?_ (fun j hj => ?_) (fun j => ?_) (fun j => ?_) (fun j => ?_) (fun j => ?_) (fun j => ?_) (fun a j e1 e2 e3 => ?_)
          · rw [k0, shf_in _ (by decide), show (1 : Int) + hfA 313 = 8 by decide, ld_st_eq]
          · rw [shf_in _ (by decide), shf_in _ (by decide), h313, el 313 _ (by decide) (by omega), all 313 _ (by decide) (by decide)]
          · rw [k0, shf_in _ (by decide), shf_in _ (by decide), h317, el 317 _ (by decide) (by omega), gE 317 _ (by decide) (by decide), dl 317 _ (by decide), if_neg (by omega), cl 317 _ (by decide), if_neg (by omega), bl 317 _ (by decide)]
            by_cases y : j = T 1 0
            · rw [if_pos y, if_pos (by omega)]
            · rw [if_neg y, if_neg (by omega)]
          · rw [k0, shf_in _ (by decide), shf_in _ (by decide), h318, el 318 _ (by decide) (by omega), gE 318 _ (by decide) (by decide), dl 318 _ (by decide), if_neg (by omega), cl 318 _ (by decide), bl 318 _ (by decide)]
            by_cases y : j = T 1 0
            · rw [if_pos y, if_pos (by omega)]
            · rw [if_neg y, if_neg (by omega), if_neg (by omega)]
          · rw [k0, shf_in _ (by decide), shf_in _ (by decide), h319, el 319 _ (by decide) (by omega), gE 319 _ (by decide) (by decide), dl 319 _ (by decide), cl 319 _ (by decide), bl 319 _ (by decide)]
            by_cases y : j = T 1 0
            · rw [if_pos y, if_pos (by omega)]
            · rw [if_neg y, if_neg (by omega), if_neg (by omega), if_neg (by omega)]
          · rw [k0, shf_in _ (by decide), shf_in _ (by decide), h320, el 320 _ (by decide) (by omega), eE10, l20]
            by_cases y : j = T 1 0
            · rw [if_pos y, if_pos (by omega)]
            · rw [if_neg y, if_neg (by omega)]
          · rw [k0, shf_in _ (by decide), shf_in _ (by decide), h321, el 321 _ (by decide) (by omega), eE11, l21]
            by_cases y : j = T 1 0
            · rw [if_pos y, if_pos (by omega)]
            · rw [if_neg y, if_neg (by omega)]
          · rw [shf_in _ (by omega), shf_in _ (by omega), el a _ (by omega) (by omega), all a _ (by omega) (by omega)]
        rw [eT] at eT2
        have vw : I32 (wL tp n pl) := wL_I _ _ _
        have vn : ∀ {x lo hi : Int}, lo ≤ x ∧ x ≤ hi → -1000 ≤ lo → hi ≤ 10000 → I32 x := fun a b c => by unfold I32; omega
        have sh3 : ∀ a j : Int, 322 ≤ a → a ≤ 332 → ld (shf (st hE 313 8 (T 1 0 + 1))) a j = ld (shf h) a j := fun a j e1 e2 => by
          rw [shf_in _ (by omega), shf_in _ (by omega), el a _ (by omega) (by omega), all a _ (by omega) (by omega)]
        have s13 : ∀ j, j ≠ 8 → ld (st hE 313 8 (T 1 0 + 1)) 313 j = ld h 313 j := fun j hj => by
          rw [el 313 _ (by decide) (by omega), all 313 _ (by decide) (by decide)]
        refine ⟨pe.1, pe.2.1, pe.2.2.1, pe.2.2.2.1, pe.2.2.2.2, ⟨shf_wf we, eT2, TOK_sit hT h5 _ _ _, I32_sit p6.2.2.2.1 hc vw (vn b2 (by decide) (by decide)) (vn b3 (by decide) (by decide)), fun k k0 k1 => ?_, ?_⟩, (s13 11 (by decide)).trans p7, by rw [g311 23 (by decide)]; exact p8, fun k hk => ?_, by rw [g311 23 (by decide)]; exact p10, (g311 35 (by decide)).trans p11, (g311 34 (by decide)).trans p12, (g311 24 (by decide)).trans p13, ?_⟩
        · rw [sh3 329 _ (by decide) (by decide), sh3 330 _ (by decide) (by decide)]
          exact p6.2.2.2.2.1 k k0 k1
        · have := p6.2.2.2.2.2
          rw [shf_in _ (by decide), h313] at this ⊢
          rw [s13 _ (by decide)]; exact this
        · rw [g311 23 (by decide), p9 k hk]
          have e19 : ∀ f : Nat, 19 ≤ f → tSit T (wL tp n pl) (wN tp n (adv tp n pl)) (wN tp n (adv tp n (adv tp n pl))) f 0 = T f 0 := fun f hf => by
            unfold tSit
            rw [if_neg (by omega), if_neg (by omega), if_neg (by omega), if_neg (by omega), if_neg (by omega), if_neg (by omega)]
          rw [e19 (19 + k) (by omega)]
        · exact KC_eq p14 (s13 13 (by decide)) (fun j => by rw [el 330 _ (by decide) (by omega), all 330 _ (by decide) (by decide)]) (fun f h1 h2 => Or.inr (funext fun i => by unfold tSit; rw [if_neg (by omega), if_neg (by omega), if_neg (by omega), if_neg (by omega), if_neg (by omega), if_neg (by omega)])) p14.2.2.2.1 (Or.inl rfl) (TX_sit p14.2.2.2.2.2 b2 b3)
      · have n3 := no3 q3
        have wf := flt_w wc (nck tp n (adv tp n (adv tp n pl)) 0 99) (adv tp n (adv tp n pl))
        have q30 : ¬ ld (flt hC (nck tp n (adv tp n (adv tp n pl)) 0 99) (adv tp n (adv tp n pl))) 311 30 = 0 := by rw [flt_30]; exact q3
        have wg : WF (st (flt hC (nck tp n (adv tp n (adv tp n pl)) 0 99) (adv tp n (adv tp n pl))) 319 (5 + T 1 0) 0) := wf_st wf (n319 _)
        have g : ∀ j, ld (st (flt hC (nck tp n (adv tp n (adv tp n pl)) 0 99) (adv tp n (adv tp n pl))) 319 (5 + T 1 0) 0) 311 j = ld (flt hC (nck tp n (adv tp n (adv tp n pl)) 0 99) (adv tp n (adv tp n pl))) 311 j := fun j => ld_st_ne (Or.inl (by decide))
        obtain ⟨h', a1, f', e1, e2⟩ := si_3 wg (by rw [g]; exact q30) hc (d + 6)
        rw [if_pos q3]
        refine ⟨h', ?_, FrX_tr fc (FrX_tr (flt_F wc _ _) (FrX_tr (FrX_in wg (by decide) (by rw [h319]; omega)) f')), q3, by rw [e1, g, flt_30], by rw [e2, g, flt_31]⟩
        rw [e158_224, if_pos (F_a311 wc), P_311_9 wc, if_pos (F_a311 wc), Cl_eq _ n3, if_pos (W_a319 wf), L_a319 wf, if_pos (by omega), a1]
    · have n2 := no2 q2
      have wf := flt_w wb (nck tp n (adv tp n pl) 0 999) (adv tp n pl)
      have q30 : ¬ ld (flt hB (nck tp n (adv tp n pl) 0 999) (adv tp n pl)) 311 30 = 0 := by rw [flt_30]; exact q2
      have wg : WF (st (flt hB (nck tp n (adv tp n pl) 0 999) (adv tp n pl)) 318 (5 + T 1 0) 0) := wf_st wf (n318 _)
      have g : ∀ j, ld (st (flt hB (nck tp n (adv tp n pl) 0 999) (adv tp n pl)) 318 (5 + T 1 0) 0) 311 j = ld (flt hB (nck tp n (adv tp n pl) 0 999) (adv tp n pl)) 311 j := fun j => ld_st_ne (Or.inl (by decide))
      obtain ⟨h', a1, f', e1, e2⟩ := si_2 wg (by rw [g]; exact q30) hc (d + 6)
      dsimp only
      rw [if_pos q2]
      refine ⟨h', ?_, FrX_tr fb (FrX_tr (flt_F wb _ _) (FrX_tr (FrX_in wg (by decide) (by rw [h318]; omega)) f')), q2, by rw [e1, g, flt_30], by rw [e2, g, flt_31]⟩
      rw [e158_210, if_pos (F_a311 wb), P_311_8 wb, if_pos (F_a311 wb), Cl_eq _ n2, if_pos (W_a318 wf), L_a318 wf, if_pos (by omega), a1]
  · have n1 := no1 q1
    have hk : ∃ k, (if tkn tp n pl = -3 then (3 : Int) else 1) = k ∧ ¬ k = 0 := ⟨_, rfl, by split <;> decide⟩
    obtain ⟨k, ek, k0⟩ := hk
    rw [ek] at n1
    have wf := flt_w w k pl
    have wg : WF (st (flt h k pl) 317 (5 + T 1 0) 0) := wf_st wf (n317 _)
    have g : ∀ j, ld (st (flt h k pl) 317 (5 + T 1 0) 0) 311 j = ld (flt h k pl) 311 j := fun j => ld_st_ne (Or.inl (by decide))
    obtain ⟨h', a1, f', e1, e2⟩ := si_1 wg (by rw [g, flt_30]; exact k0) hc (d + 6)
    have eR : (if ¬ tkn tp n pl = -3 then (Except.error (1, pl) : LnR) else if ¬ tSitr T (wL tp n pl) = -1 then .error (3, pl) else
      if ¬ nck tp n (adv tp n pl) 0 999 = 0 then .error (nck tp n (adv tp n pl) 0 999, adv tp n pl) else
      if ¬ nck tp n (adv tp n (adv tp n pl)) 0 99 = 0 then .error (nck tp n (adv tp n (adv tp n pl)) 0 99, adv tp n (adv tp n pl)) else
      .ok (tSit T (wL tp n pl) (wN tp n (adv tp n pl)) (wN tp n (adv tp n (adv tp n pl))), tw, hl, kn, adv tp n (adv tp n (adv tp n pl)))) = .error (k, pl) := by
      by_cases z : tkn tp n pl = -3
      · rw [if_pos z] at ek
        rw [if_neg (fun u => u z), if_pos (fun u => q1 ⟨z, u⟩), ek]
      · rw [if_neg z] at ek
        rw [if_pos z, ek]
    refine ⟨h', ?_, FrX_tr (flt_F w _ _) (FrX_tr (FrX_in wg (by decide) (by rw [h317]; omega)) f'), ?_⟩
    · rw [e158_190, if_pos (F_a311 w), P_311_7 w, if_pos (F_a311 w), if_pos (F_a311 w), Cl_eq _ r155, if_pos (F_a311 w), Cl_eq _ n1, if_pos (W_a317 wf), L_a317 wf, if_pos (by omega), a1]
    · dsimp only
      rw [eR]
      exact ⟨k0, by rw [e1, g, flt_30], by rw [e2, g, flt_31]⟩
end SL
