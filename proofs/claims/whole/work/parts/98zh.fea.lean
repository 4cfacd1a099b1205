/-! layer 2: the plain program reads a feature -/
section FL
variable {h h' : Hp} {tp : Int → Int} {n pl : Int} {T : Wd} {tw hl kn op ln : Int}
theorem FrX_in {a j v : Int} (w' : WF (st h a j v)) (ha : 313 ≤ a ∧ a ≤ 332) (hj : hfA a ≤ j) : FrX h (st h a j v) := ⟨w', rfl, fun x i _ e2 => ld_st_ne (by
  by_cases q : x = a
  · refine Or.inr (fun u => e2 ⟨by omega, by rw [q, u]; exact hj⟩)
  · exact Or.inl q)⟩
theorem n313 (j : Int) : npt 313 j := npt_A (by decide +kernel) j
theorem n314 (j : Int) : npt 314 j := npt_A (by decide +kernel) j
theorem n315 (j : Int) : npt 315 j := npt_A (by decide +kernel) j
theorem n316 (j : Int) : npt 316 j := npt_A (by decide +kernel) j
/-- a line's end: a fault told, or the reader behind it -/
def LO (tp : Int → Int) (n op ln : Int) (h' : Hp) : LnR → Prop
  | .error (k, pc) => ¬ k = 0 ∧ ld h' 311 30 = k ∧ ld h' 311 31 = pc
  | .ok (T, tw, hl, kn, p') => PR h' tp n p' T tw hl kn op ln
def feR (tp : Int → Int) (n : Int) (T : Wd) (tw hl kn p1 : Int) : LnR :=
  if ¬ tkn tp n p1 = -3 then .error (1, p1) else if ¬ tFeat T (wL tp n p1) = -1 then .error (3, p1) else
  let p2 := adv tp n p1
  if ¬ nck tp n p2 1 99 = 0 then .error (nck tp n p2 1 99, p2) else
  let p3 := adv tp n p2
  if ¬ nck tp n p3 1 9 = 0 then .error (nck tp n p3 1 9, p3) else
  .ok (tFea T (wL tp n p1) (wN tp n p2) (wN tp n p3), tw, hl, kn, adv tp n p3)
/-- behind a fault the rest of a feature's line is of no matter -/
theorem fe_3 (w : WF h) (q : ¬ ld h 311 30 = 0) (d : Nat) : ∃ h', V (d + 1) 158 174 [(2, 311), (9, 0), (9, 0), (9, 0)] [] h = V (d + 1) 158 313 [(2, 311), (9, 0), (9, 0), (9, 0)] [] h' ∧ FrX h h' ∧ ld h' 311 30 = ld h 311 30 ∧ ld h' 311 31 = ld h 311 31 := by
  refine ⟨_, by rw [e158_174, if_pos (F_a311 w), Cl_eq _ (rk_156 w (x := 0) (by decide) d)], FrX_in (wf_st w (n313 _)) (by decide) (by decide), ld_st_ne (Or.inl (by decide)), ld_st_ne (Or.inl (by decide))⟩
theorem fe_2 (w : WF h) (q : ¬ ld h 311 30 = 0) {c : Int} (hc : 0 ≤ c ∧ c < 5) (d : Nat) : ∃ h', V (d + 1) 158 161 [(2, 311), (9, 0), (0, 5 + c), (9, 0)] [] h = V (d + 1) 158 313 [(2, 311), (9, 0), (9, 0), (9, 0)] [] h' ∧ FrX h h' ∧ ld h' 311 30 = ld h 311 30 ∧ ld h' 311 31 = ld h 311 31 := by
  have w1 : WF (st h 316 (5 + c) 1) := wf_st w (n316 _)
  have g : ∀ j, ld (st h 316 (5 + c) 1) 311 j = ld h 311 j := fun j => ld_st_ne (Or.inl (by decide))
  obtain ⟨h', a1, f1, e1, e2⟩ := fe_3 w1 (by rw [g]; exact q) d
  refine ⟨h', ?_, FrX_tr (FrX_in w1 (by decide) (by rw [show hfA 316 = 5 by decide]; omega)) f1, e1.trans (g 30), e2.trans (g 31)⟩
  rw [e158_161, if_pos (F_a311 w), P_311_6 w, if_pos (F_a311 w), Cl_eq _ (rk_149f w q 1 9 d), if_pos (W_a316 w), L_a316 w, if_pos (by omega), a1]
theorem fe_1 (w : WF h) (q : ¬ ld h 311 30 = 0) {c : Int} (hc : 0 ≤ c ∧ c < 5) (d : Nat) : ∃ h', V (d + 1) 158 148 [(2, 311), (9, 0), (0, 5 + c), (9, 0)] [] h = V (d + 1) 158 313 [(2, 311), (9, 0), (9, 0), (9, 0)] [] h' ∧ FrX h h' ∧ ld h' 311 30 = ld h 311 30 ∧ ld h' 311 31 = ld h 311 31 := by
  have w1 : WF (st h 315 (5 + c) 1) := wf_st w (n315 _)
  have g : ∀ j, ld (st h 315 (5 + c) 1) 311 j = ld h 311 j := fun j => ld_st_ne (Or.inl (by decide))
  obtain ⟨h', a1, f1, e1, e2⟩ := fe_2 w1 (by rw [g]; exact q) hc d
  refine ⟨h', ?_, FrX_tr (FrX_in w1 (by decide) (by rw [show hfA 315 = 5 by decide]; omega)) f1, e1.trans (g 30), e2.trans (g 31)⟩
  rw [e158_148, if_pos (F_a311 w), P_311_5 w, if_pos (F_a311 w), Cl_eq _ (rk_149f w q 1 99 d), if_pos (W_a315 w), L_a315 w, if_pos (by omega), a1]
theorem rk_fea (p : PR h tp n pl T tw hl kn op ln) (h5 : T 0 0 < 5) (x1 : Int) (d : Nat) : ∃ h', V (d + 7) 158 120 [(2, 311), (0, x1), (9, 0), (9, 0)] [] h = V (d + 7) 158 313 [(2, 311), (9, 0), (9, 0), (9, 0)] [] h' ∧ FrX h h' ∧ LO tp n op ln h' (feR tp n T tw hl kn pl) := by
  have w := p.1.1
  have hT := p.2.2.2.2.2.1.K
  have t0 := hT.1
  have c0 := (PR_c0 p).1
  have r155 := rk_155 w (x := 0) (by decide) (d + 6)
  rw [show (7 : Int) + 0 = 7 by decide, c0] at r155
  have hc : 0 ≤ T 0 0 ∧ T 0 0 < 5 := ⟨t0.1, h5⟩
  have h316 : hfA 316 = 5 := by decide
  have h315 : hfA 315 = 5 := by decide
  have h314 : hfA 314 = 5 := by decide
  have h313 : hfA 313 = 7 := by decide
  obtain ⟨ok1, no1⟩ := rk_151 p.pp (F_a314 w) (L_a314 w) t0 (fnd_feat p) d
  have e120 : V (d + 7) 158 120 [(2, 311), (0, x1), (9, 0), (9, 0)] [] h = V (d + 7) 158 128 [(2, 311), (9, 0), (0, 5 + T 0 0), (9, 0)] [] h := by
    rw [e158_120, if_pos (F_a311 w), Cl_eq _ r155, show w32 (5 + T 0 0) = 5 + T 0 0 by unfold w32; omega]
  rw [e120]
  unfold feR
  by_cases q1 : tkn tp n pl = -3 ∧ tFeat T (wL tp n pl) = -1
  · obtain ⟨h1, a1, f1, p1⟩ := ok1 q1.1 q1.2
    have w1 := f1.1
    have wb : WF (st h1 314 (5 + T 0 0) (wL tp n pl)) := wf_st w1 (n314 _)
    have pb := PP_st p1 wb (by decide)
    rw [if_neg (fun u => u q1.1), if_neg (fun u => u q1.2)]
    have e128 : V (d + 7) 158 128 [(2, 311), (9, 0), (0, 5 + T 0 0), (9, 0)] [] h = V (d + 7) 158 148 [(2, 311), (9, 0), (0, 5 + T 0 0), (9, 0)] [] (st h1 314 (5 + T 0 0) (wL tp n pl)) := by
      rw [e158_128, if_pos (F_a311 w), P_311_4 w, if_pos (F_a311 w), if_pos (F_a311 w), Cl_eq _ r155, if_pos (F_a311 w), Cl_eq _ a1, if_pos (W_a314 w1), L_a314 w1, if_pos (by omega)]
    rw [e128]
    have fb : FrX h (st h1 314 (5 + T 0 0) (wL tp n pl)) := FrX_tr (FrX_L f1) (FrX_in wb (by decide) (by rw [h314]; omega))
    generalize hb : st h1 314 (5 + T 0 0) (wL tp n pl) = hB at *
    have bl : ∀ a j, a ≠ 311 → ld hB a j = if a = 314 ∧ j = 5 + T 0 0 then wL tp n pl else ld h a j := fun a j e => by
      rw [← hb]
      by_cases y : a = 314 ∧ j = 5 + T 0 0
      · rw [if_pos y, y.1, y.2, ld_st_eq]
      · rw [if_neg y, ld_st_ne (by omega)]; exact f1.2.2 a j (by omega)
    obtain ⟨ok2, no2⟩ := rk_149 pb (lo := 1) (hi := 99) (by decide) (by decide) d
    by_cases q2 : nck tp n (adv tp n pl) 1 99 = 0
    · obtain ⟨h2, a2, f2, p2, b2⟩ := ok2 q2
      have w2 := f2.1
      have wc : WF (st h2 315 (5 + T 0 0) (wN tp n (adv tp n pl))) := wf_st w2 (n315 _)
      have pc := PP_st p2 wc (by decide)
      have e148 : V (d + 7) 158 148 [(2, 311), (9, 0), (0, 5 + T 0 0), (9, 0)] [] hB = V (d + 7) 158 161 [(2, 311), (9, 0), (0, 5 + T 0 0), (9, 0)] [] (st h2 315 (5 + T 0 0) (wN tp n (adv tp n pl))) := by
        rw [e158_148, if_pos (F_a311 wb), P_311_5 wb, if_pos (F_a311 wb), Cl_eq _ a2, if_pos (W_a315 w2), L_a315 w2, if_pos (by omega)]
      have fc : FrX h (st h2 315 (5 + T 0 0) (wN tp n (adv tp n pl))) := FrX_tr fb (FrX_tr (FrX_L f2) (FrX_in wc (by decide) (by rw [h315]; omega)))
      rw [e148]
      generalize hcc : st h2 315 (5 + T 0 0) (wN tp n (adv tp n pl)) = hC at *
      have cl : ∀ a j, a ≠ 311 → ld hC a j = if a = 315 ∧ j = 5 + T 0 0 then wN tp n (adv tp n pl) else ld hB a j := fun a j e => by
        rw [← hcc]
        by_cases y : a = 315 ∧ j = 5 + T 0 0
        · rw [if_pos y, y.1, y.2, ld_st_eq]
        · rw [if_neg y, ld_st_ne (by omega)]; exact f2.2.2 a j (by omega)
      obtain ⟨ok3, no3⟩ := rk_149 pc (lo := 1) (hi := 9) (by decide) (by decide) d
      dsimp only
      rw [if_neg (fun u => u q2)]
      by_cases q3 : nck tp n (adv tp n (adv tp n pl)) 1 9 = 0
      · obtain ⟨h3, a3, f3, p3, b3⟩ := ok3 q3
        have w3 := f3.1
        have wd : WF (st h3 316 (5 + T 0 0) (wN tp n (adv tp n (adv tp n pl)))) := wf_st w3 (n316 _)
        have pd := PP_st p3 wd (by decide)
        have e161 : V (d + 7) 158 161 [(2, 311), (9, 0), (0, 5 + T 0 0), (9, 0)] [] hC = V (d + 7) 158 174 [(2, 311), (9, 0), (9, 0), (9, 0)] [] (st h3 316 (5 + T 0 0) (wN tp n (adv tp n (adv tp n pl)))) := by
          rw [e158_161, if_pos (F_a311 wc), P_311_6 wc, if_pos (F_a311 wc), Cl_eq _ a3, if_pos (W_a316 w3), L_a316 w3, if_pos (by omega)]
        have fd : FrX h (st h3 316 (5 + T 0 0) (wN tp n (adv tp n (adv tp n pl)))) := FrX_tr fc (FrX_tr (FrX_L f3) (FrX_in wd (by decide) (by rw [h316]; omega)))
        rw [e161, if_neg (fun u => u q3)]
        generalize hdd : st h3 316 (5 + T 0 0) (wN tp n (adv tp n (adv tp n pl))) = hD at *
        have dl : ∀ a j, a ≠ 311 → ld hD a j = if a = 316 ∧ j = 5 + T 0 0 then wN tp n (adv tp n (adv tp n pl)) else ld hC a j := fun a j e => by
          rw [← hdd]
          by_cases y : a = 316 ∧ j = 5 + T 0 0
          · rw [if_pos y, y.1, y.2, ld_st_eq]
          · rw [if_neg y, ld_st_ne (by omega)]; exact f3.2.2 a j (by omega)
        have all : ∀ a j, a ≠ 311 → a ≠ 314 → a ≠ 315 → a ≠ 316 → ld hD a j = ld h a j := fun a j e1 e2 e3 e4 => by
          rw [dl a j e1, if_neg (fun u => e4 u.1), cl a j e1, if_neg (fun u => e3 u.1), bl a j e1, if_neg (fun u => e2 u.1)]
        have r156 := rk_156 wd (x := 0) (by decide) (d + 6)
        rw [show (7 : Int) + 0 = 7 by decide, all 313 7 (by decide) (by decide) (by decide) (by decide), c0, show w32 (T 0 0 + 1) = T 0 0 + 1 by unfold w32; omega] at r156
        have we : WF (st hD 313 7 (T 0 0 + 1)) := wf_st wd (n313 _)
        refine ⟨st hD 313 7 (T 0 0 + 1), by rw [e158_174, if_pos (F_a311 wd), Cl_eq _ r156], FrX_tr fd (FrX_in we (by decide) (by rw [h313]; omega)), ?_⟩
        have pe := PP_st pd we (by decide)
        have g311 : ∀ j, ¬ (26 ≤ j ∧ j ≤ 29) → ld (st hD 313 7 (T 0 0 + 1)) 311 j = ld h 311 j := fun j hj => by
          rw [ld_st_ne (Or.inl (by decide)), ← hdd, ld_st_ne (Or.inl (by decide)), f3.2.2 311 j (by omega), ← hcc, ld_st_ne (Or.inl (by decide)), f2.2.2 311 j (by omega), ← hb, ld_st_ne (Or.inl (by decide)), f1.2.2 311 j (by omega)]
        have el : ∀ a j, a ≠ 311 → ¬ (a = 313 ∧ j = 7) → ld (st hD 313 7 (T 0 0 + 1)) a j = ld hD a j := fun a j e1 e2 => ld_st_ne (by omega)
        obtain ⟨-, -, -, -, -, p6, p7, p8, p9, p10, p11, p12, p13, p14⟩ := id p
        have eT : tR (shf h) = T := p6.2.1
        have k0 : ld (shf h) 313 0 = T 0 0 := rt0 p6
        have eT2 : tR (shf (st hD 313 7 (T 0 0 + 1))) = tFea (tR (shf h)) (wL tp n pl) (wN tp n (adv tp n pl)) (wN tp n (adv tp n (adv tp n pl))) := by
          refine tR_tFea (by rw [k0]; exact hc.1) ?_ (fun j hj => ?_) (fun j => ?_) (fun j => ?_) (fun j => ?_) (fun a j e1 e2 => ?_)
          · rw [k0, shf_in _ (by decide), show (0 : Int) + hfA 313 = 7 by decide, ld_st_eq]
          · rw [shf_in _ (by decide), shf_in _ (by decide), h313, el 313 _ (by decide) (by omega), all 313 _ (by decide) (by decide) (by decide) (by decide)]
          · rw [k0, shf_in _ (by decide), shf_in _ (by decide), h314, el 314 _ (by decide) (by omega), dl 314 _ (by decide), if_neg (by omega), cl 314 _ (by decide), if_neg (by omega), bl 314 _ (by decide)]
            by_cases y : j = T 0 0
            · rw [if_pos y, if_pos (by omega)]
            · rw [if_neg y, if_neg (by omega)]
          · rw [k0, shf_in _ (by decide), shf_in _ (by decide), h315, el 315 _ (by decide) (by omega), dl 315 _ (by decide), if_neg (by omega), cl 315 _ (by decide), bl 315 _ (by decide)]
            by_cases y : j = T 0 0
            · rw [if_pos y, if_pos (by omega)]
            · rw [if_neg y, if_neg (by omega), if_neg (by omega)]
          · rw [k0, shf_in _ (by decide), shf_in _ (by decide), h316, el 316 _ (by decide) (by omega), dl 316 _ (by decide), cl 316 _ (by decide), bl 316 _ (by decide)]
            by_cases y : j = T 0 0
            · rw [if_pos y, if_pos (by omega)]
            · rw [if_neg y, if_neg (by omega), if_neg (by omega), if_neg (by omega)]
          · rw [shf_in _ (by omega), shf_in _ (by omega), el a _ (by omega) (by omega), all a _ (by omega) (by omega) (by omega) (by omega)]
        rw [eT] at eT2
        have vw : I32 (wL tp n pl) := wL_I _ _ _
        have vn : ∀ {x lo hi : Int}, lo ≤ x ∧ x ≤ hi → -1000 ≤ lo → hi ≤ 10000 → I32 x := fun a b c => by unfold I32; omega
        have sh3 : ∀ a j : Int, 317 ≤ a → a ≤ 332 → ld (shf (st hD 313 7 (T 0 0 + 1))) a j = ld (shf h) a j := fun a j e1 e2 => by
          rw [shf_in _ (by omega), shf_in _ (by omega), el a _ (by omega) (by omega), all a _ (by omega) (by omega) (by omega) (by omega)]
        have s13 : ∀ j, j ≠ 7 → ld (st hD 313 7 (T 0 0 + 1)) 313 j = ld h 313 j := fun j hj => by
          rw [el 313 _ (by decide) (by omega), all 313 _ (by decide) (by decide) (by decide) (by decide)]
        refine ⟨pe.1, pe.2.1, pe.2.2.1, pe.2.2.2.1, pe.2.2.2.2, ⟨shf_wf we, eT2, TOK_fea hT h5 b2 b3, I32_fea p6.2.2.2.1 hc vw (vn b2 (by decide) (by decide)) (vn b3 (by decide) (by decide)), fun k k0 k1 => ?_, ?_⟩, (s13 11 (by decide)).trans p7, by rw [g311 23 (by decide)]; exact p8, fun k hk => ?_, by rw [g311 23 (by decide)]; exact p10, (g311 35 (by decide)).trans p11, (g311 34 (by decide)).trans p12, (g311 24 (by decide)).trans p13, ?_⟩
        · rw [sh3 329 _ (by decide) (by decide), sh3 330 _ (by decide) (by decide)]
          exact p6.2.2.2.2.1 k k0 k1
        · have := p6.2.2.2.2.2
          rw [shf_in _ (by decide), h313] at this ⊢
          rw [s13 _ (by decide)]; exact this
        · rw [g311 23 (by decide), p9 k hk]
          have e19 : ∀ f : Nat, 19 ≤ f → tFea T (wL tp n pl) (wN tp n (adv tp n pl)) (wN tp n (adv tp n (adv tp n pl))) f 0 = T f 0 := fun f hf => by
            unfold tFea
            rw [if_neg (by omega), if_neg (by omega), if_neg (by omega), if_neg (by omega)]
          rw [e19 (19 + k) (by omega)]
        · exact KC_eq p14 (s13 13 (by decide)) (fun j => by rw [el 330 _ (by decide) (by omega), all 330 _ (by decide) (by decide) (by decide) (by decide)]) (fun f h1 h2 => Or.inr (funext fun i => by unfold tFea; rw [if_neg (by omega), if_neg (by omega), if_neg (by omega), if_neg (by omega)])) p14.2.2.2.1 (Or.inl rfl) (TX_eq p14.2.2.2.2.2 (fun f hf => funext fun i => by unfold tFea; rw [if_neg (by omega), if_neg (by omega), if_neg (by omega), if_neg (by omega)]))
      · have n3 := no3 q3
        have wf := flt_w wc (nck tp n (adv tp n (adv tp n pl)) 1 9) (adv tp n (adv tp n pl))
        have q30 : ¬ ld (flt hC (nck tp n (adv tp n (adv tp n pl)) 1 9) (adv tp n (adv tp n pl))) 311 30 = 0 := by rw [flt_30]; exact q3
        have wg : WF (st (flt hC (nck tp n (adv tp n (adv tp n pl)) 1 9) (adv tp n (adv tp n pl))) 316 (5 + T 0 0) 1) := wf_st wf (n316 _)
        have g : ∀ j, ld (st (flt hC (nck tp n (adv tp n (adv tp n pl)) 1 9) (adv tp n (adv tp n pl))) 316 (5 + T 0 0) 1) 311 j = ld (flt hC (nck tp n (adv tp n (adv tp n pl)) 1 9) (adv tp n (adv tp n pl))) 311 j := fun j => ld_st_ne (Or.inl (by decide))
        obtain ⟨h', a1, f', e1, e2⟩ := fe_3 wg (by rw [g]; exact q30) (d + 6)
        rw [if_pos q3]
        refine ⟨h', ?_, FrX_tr fc (FrX_tr (flt_F wc _ _) (FrX_tr (FrX_in wg (by decide) (by rw [h316]; omega)) f')), q3, by rw [e1, g, flt_30], by rw [e2, g, flt_31]⟩
        rw [e158_161, if_pos (F_a311 wc), P_311_6 wc, if_pos (F_a311 wc), Cl_eq _ n3, if_pos (W_a316 wf), L_a316 wf, if_pos (by omega), a1]
    · have n2 := no2 q2
      have wf := flt_w wb (nck tp n (adv tp n pl) 1 99) (adv tp n pl)
      have q30 : ¬ ld (flt hB (nck tp n (adv tp n pl) 1 99) (adv tp n pl)) 311 30 = 0 := by rw [flt_30]; exact q2
      have wg : WF (st (flt hB (nck tp n (adv tp n pl) 1 99) (adv tp n pl)) 315 (5 + T 0 0) 1) := wf_st wf (n315 _)
      have g : ∀ j, ld (st (flt hB (nck tp n (adv tp n pl) 1 99) (adv tp n pl)) 315 (5 + T 0 0) 1) 311 j = ld (flt hB (nck tp n (adv tp n pl) 1 99) (adv tp n pl)) 311 j := fun j => ld_st_ne (Or.inl (by decide))
      obtain ⟨h', a1, f', e1, e2⟩ := fe_2 wg (by rw [g]; exact q30) hc (d + 6)
      dsimp only
      rw [if_pos q2]
      refine ⟨h', ?_, FrX_tr fb (FrX_tr (flt_F wb _ _) (FrX_tr (FrX_in wg (by decide) (by rw [h315]; omega)) f')), q2, by rw [e1, g, flt_30], by rw [e2, g, flt_31]⟩
      rw [e158_148, if_pos (F_a311 wb), P_311_5 wb, if_pos (F_a311 wb), Cl_eq _ n2, if_pos (W_a315 wf), L_a315 wf, if_pos (by omega), a1]
  · have n1 := no1 q1
    have hk : ∃ k, (if tkn tp n pl = -3 then (3 : Int) else 1) = k ∧ ¬ k = 0 := ⟨_, rfl, by split <;> decide⟩
    obtain ⟨k, ek, k0⟩ := hk
    rw [ek] at n1
    have wf := flt_w w k pl
    have wg : WF (st (flt h k pl) 314 (5 + T 0 0) 0) := wf_st wf (n314 _)
    have g : ∀ j, ld (st (flt h k pl) 314 (5 + T 0 0) 0) 311 j = ld (flt h k pl) 311 j := fun j => ld_st_ne (Or.inl (by decide))
    obtain ⟨h', a1, f', e1, e2⟩ := fe_1 wg (by rw [g, flt_30]; exact k0) hc (d + 6)
    have eR : (if ¬ tkn tp n pl = -3 then (Except.error (1, pl) : LnR) else if ¬ tFeat T (wL tp n pl) = -1 then .error (3, pl) else
      if ¬ nck tp n (adv tp n pl) 1 99 = 0 then .error (nck tp n (adv tp n pl) 1 99, adv tp n pl) else
      if ¬ nck tp n (adv tp n (adv tp n pl)) 1 9 = 0 then .error (nck tp n (adv tp n (adv tp n pl)) 1 9, adv tp n (adv tp n pl)) else
      .ok (tFea T (wL tp n pl) (wN tp n (adv tp n pl)) (wN tp n (adv tp n (adv tp n pl))), tw, hl, kn, adv tp n (adv tp n (adv tp n pl)))) = .error (k, pl) := by
      by_cases z : tkn tp n pl = -3
      · rw [if_pos z] at ek
        rw [if_neg (fun u => u z), if_pos (fun u => q1 ⟨z, u⟩), ek]
      · rw [if_neg z] at ek
        rw [if_pos z, ek]
    refine ⟨h', ?_, FrX_tr (flt_F w _ _) (FrX_tr (FrX_in wg (by decide) (by rw [h314]; omega)) f'), ?_⟩
    · rw [e158_128, if_pos (F_a311 w), P_311_4 w, if_pos (F_a311 w), if_pos (F_a311 w), Cl_eq _ r155, if_pos (F_a311 w), Cl_eq _ n1, if_pos (W_a314 wf), L_a314 wf, if_pos (by omega), a1]
    · dsimp only
      rw [eR]
      exact ⟨k0, by rw [e1, g, flt_30], by rw [e2, g, flt_31]⟩
end FL
