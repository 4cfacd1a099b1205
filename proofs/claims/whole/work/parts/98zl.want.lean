/-! layer 2: the plain program reads a piece -/
section WN
variable {h h' : Hp} {tp : Int → Int} {n pl : Int} {T : Wd} {tw hl kn op ln : Int}
theorem rk_154f (w : WF h) (q : ¬ ld h 311 30 = 0) (d : Nat) : C (d + 2) 154 [(2, 311)] h = some ((0, 0), h) := by
  rw [ce_154, e154_0, if_pos (F_a311 w), if_pos (F_a311 w), P_311_4 w, Cl_eq _ (rk_155 w (x := 0) (by decide) (d + 1)), if_pos (F_a311 w), Cl_eq _ (rk_152f w q 314 5 _ (d + 1))]
/-- the reader stands where it stood, with other tables -/
theorem PR_mk (p : PR h tp n pl T tw hl kn op ln) {g : Hp} {T' : Wd} {tw' : Int} (wg : WF g) (e1 : ∀ j, ld g 311 j = ld h 311 j) (e2 : ∀ j, ld g 312 j = ld h 312 j) (eT : tR (shf g) = T') (k1 : TOK T') (k2 : ∀ f i, I32 (T' f i)) (e19 : ∀ f : Nat, 18 ≤ f → f ≤ 21 → T' f = T f) (ht : tw' ≤ 2) (tx : TX T') (e : ∀ a j : Int, a = 329 ∨ a = 330 → ld g a j = ld h a j) (e5 : ld g 313 12 = ld h 313 12) (e13 : ld g 313 13 = ld h 313 13) (e11 : ld g 313 11 = tw') : PR g tp n pl T' tw' hl kn op ln := by
  obtain ⟨⟨-, c2, c3, c4, c5, c6⟩, p2, p3, p4, p5, p6, p7, p8, p9, p10, p11, p12, p13, p14⟩ := id p
  refine ⟨⟨wg, fun j' j0 j1 => by rw [e2]; exact c2 j' j0 j1, (e1 25).trans c3, c4, (e1 26).trans c5, c6⟩, (e1 27).trans p2, by rw [e1 28, e1 29]; exact p3, (e1 30).trans p4, (e1 31).trans p5, ⟨shf_wf wg, eT, k1, k2, fun k k0 k3 => ?_, ?_⟩, e11, by rw [e1 23]; exact p8, fun k hk => by rw [e1 23, p9 k hk, e19 (19 + k) (by omega) (by omega)], by rw [e1 23]; exact p10, (e1 35).trans p11, (e1 34).trans p12, (e1 24).trans p13, KC_eq p14 e13 (fun j => e 330 j (Or.inr rfl)) (fun f h1 h2 => Or.inr (e19 f h1 h2)) ht (Or.inl rfl) tx⟩
  · have := p6.2.2.2.2.1 k k0 k3
    rw [shf_in _ (by decide), shf_in _ (by decide)] at this ⊢
    rw [e 329 _ (Or.inl rfl), e 330 _ (Or.inr rfl)]; exact this
  · have := p6.2.2.2.2.2
    rw [shf_in _ (by decide), show (5 : Int) + hfA 313 = 12 by decide] at this ⊢
    rw [e5]; exact this
theorem rk_149P (p : PR h tp n pl T tw hl kn op ln) {lo hi : Int} (hlo : 0 ≤ lo ∧ lo ≤ hi) (hhi : hi ≤ 9999) (q : nck tp n pl lo hi = 0) (d : Nat) : ∃ h', C (d + 6) 149 [(2, 311), (0, lo), (0, hi)] h = some ((0, wN tp n pl), h') ∧ FrL h h' ∧ PR h' tp n (adv tp n pl) T tw hl kn op ln ∧ (lo ≤ wN tp n pl ∧ wN tp n pl ≤ hi) := by
  have w := p.1.1
  have l := p.pp.2.2.1
  obtain ⟨h3, -, -, -, b3⟩ := (rk_149 p.pp hlo hhi d).1 q
  obtain ⟨h', a', f', p'⟩ := PR_adv p d
  have s2 : tkn tp n pl = -4 := by
    unfold nck at q; split at q
    · rename_i u; exact u
    · omega
  obtain ⟨v3, v4⟩ := va_2 l s2
  have ev : ld h 311 29 = wN tp n pl := by rw [← v3]; rw [← v3] at b3; unfold imin at b3 ⊢; split <;> omega
  refine ⟨h', ?_, f', p', b3⟩
  rw [ce_149, e149_0, if_pos (F_a311 w), p.2.2.2.1, if_pos rfl, e149_9, if_pos (F_a311 w), if_pos ((so_2 l).mpr s2), e149_25, if_pos (F_a311 w), ev, if_neg (by omega), if_pos (F_a311 w), if_neg (by omega), e149_46, if_pos (F_a311 w), p.2.2.2.1, if_pos rfl, e149_55, if_pos (F_a311 w), if_pos (F_a311 w), Cl_eq _ a', ev, e149_64]
def waR (tp : Int → Int) (n : Int) (T : Wd) (tw hl kn p1 : Int) : LnR :=
  if ¬ nxk (tkn tp n p1) (tSitr T (wL tp n p1)) = 0 then .error (nxk (tkn tp n p1) (tSitr T (wL tp n p1)), p1) else
  if ¬ nxk (tkn tp n (adv tp n p1)) (tFeat T (wL tp n (adv tp n p1))) = 0 then .error (nxk (tkn tp n (adv tp n p1)) (tFeat T (wL tp n (adv tp n p1))), adv tp n p1) else
  if ¬ tPiec T (tSitr T (wL tp n p1)) (tFeat T (wL tp n (adv tp n p1))) = -1 then .error (3, adv tp n p1) else
  if ¬ nck tp n (adv tp n (adv tp n p1)) 0 99 = 0 then .error (nck tp n (adv tp n (adv tp n p1)) 0 99, adv tp n (adv tp n p1)) else
  .ok (tPie T (tSitr T (wL tp n p1)) (tFeat T (wL tp n (adv tp n p1))) (wN tp n (adv tp n (adv tp n p1))), tw, hl, kn, adv tp n (adv tp n (adv tp n p1)))
theorem nxk_inF {T : Wd} {t l : Int} (q : nxk t (tFeat T l) = 0) : 0 ≤ tFeat T l ∧ tFeat T l < (T 0 0).toNat := by
  unfold nxk at q
  unfold tFeat at q ⊢
  rcases fnd_rng (f := fun k => decide (T 4 k = l)) (T 0 0).toNat 0 with u | ⟨u1, u2, -⟩
  · rw [u] at q; split at q <;> omega
  · omega
theorem wa_f64 (w : WF h) (q : ¬ ld h 311 30 = 0) (x1 x2 x3 : Int) (d : Nat) : V (d + 1) 159 64 [(2, 311), (0, x1), (0, x2), (0, x3), (9, 0)] [] h = some ((9, 0), h) := by
  rw [e159_64, if_pos (F_a311 w), Cl_eq _ (rk_148f w q d), if_pos (F_a311 w), Cl_eq _ (rk_149f w q 0 99 d), e159_77, if_pos (F_a311 w), if_neg q]
theorem wa_f18 (w : WF h) (q : ¬ ld h 311 30 = 0) (x1 x2 x3 x4 : Int) (d : Nat) : V (d + 1) 159 18 [(2, 311), (0, x1), (0, x2), (0, x3), (0, x4)] [] h = some ((9, 0), h) := by
  rw [e159_18, if_pos (F_a311 w), if_neg q, wa_f64 w q]
theorem wa_f9 (w : WF h) (q : ¬ ld h 311 30 = 0) (x1 x2 : Int) (d : Nat) : V (d + 3) 159 9 [(2, 311), (0, x1), (0, x2), (9, 0), (9, 0)] [] h = some ((9, 0), h) := by
  rw [e159_9, if_pos (F_a311 w), Cl_eq _ (rk_154f w q d), wa_f18 w q]
theorem wa_lp (p : PR h tp n pl T tw hl kn op ln) (s f : Int) (d : Nat) : ∀ (m : Nat) (k : Int), 0 ≤ k → k + m = T 2 0 → V (d + 1) 159 18 [(2, 311), (0, 10 + T 2 0), (0, s), (0, f), (0, 10 + k)] [] h = if fnd (fun k => decide (T 12 k = s) && decide (T 13 k = f)) m k = -1 then V (d + 1) 159 64 [(2, 311), (0, 10 + T 2 0), (0, s), (0, f), (9, 0)] [] h else some ((9, 0), flt h 3 pl) := by
  have w := p.1.1
  have t2 := p.2.2.2.2.2.1.K.2.2.1
  intro m
  induction m with
  | zero =>
    intro k k0 hk
    rw [show fnd (fun k => decide (T 12 k = s) && decide (T 13 k = f)) 0 k = -1 from rfl, if_pos rfl, e159_18, if_pos (F_a311 w), p.2.2.2.1, if_pos rfl, if_neg (by omega)]
  | succ m ih =>
    intro k k0 hk
    have e12 : ld h 322 (10 + k) = T 12 k := by
      have := rt12 p.2.2.2.2.2.1 (i := k) ⟨k0, by omega⟩
      rw [shf_in _ (by decide), show k + hfA 322 = 10 + k by rw [show hfA 322 = 10 by decide]; omega] at this
      exact this
    have e13 : ld h 323 (10 + k) = T 13 k := by
      have := rt13 p.2.2.2.2.2.1 (i := k) ⟨k0, by omega⟩
      rw [shf_in _ (by decide), show k + hfA 323 = 10 + k by rw [show hfA 323 = 10 by decide]; omega] at this
      exact this
    have nx : V (d + 1) 159 58 [(2, 311), (0, 10 + T 2 0), (0, s), (0, f), (0, 10 + k)] [] h = V (d + 1) 159 18 [(2, 311), (0, 10 + T 2 0), (0, s), (0, f), (0, 10 + (k + 1))] [] h := by
      rw [e159_58, show w32 (10 + k + 1) = 10 + (k + 1) by unfold w32; omega]
    rw [e159_18, if_pos (F_a311 w), p.2.2.2.1, if_pos rfl, if_pos (by omega), e159_31, if_pos (F_a311 w), P_311_12 w, if_pos (F_a322 w), L_a322 w, if_pos (by omega), e12]
    show _ = if (if (decide (T 12 k = s) && decide (T 13 k = f)) = true then k else fnd _ m (k + 1)) = -1 then _ else _
    by_cases q1 : T 12 k = s
    · rw [if_pos q1, e159_42, if_pos (F_a311 w), P_311_13 w, if_pos (F_a323 w), L_a323 w, if_pos (by omega), e13]
      by_cases q2 : T 13 k = f
      · have wf := flt_w w 3 pl
        rw [if_pos q2, if_pos (show (decide (T 12 k = s) && decide (T 13 k = f)) = true by rw [decide_eq_true q1, decide_eq_true q2]; rfl), if_neg (by omega), e159_53, if_pos (F_a311 w), Cl_eq _ (rk_145p p.pp 3 d), e159_58, wa_f18 wf (by rw [flt_30]; decide)]
      · rw [if_neg q2, if_neg (show ¬ (decide (T 12 k = s) && decide (T 13 k = f)) = true by rw [decide_eq_false q2, Bool.and_false]; decide), nx, ih (k + 1) (by omega) (by omega)]
    · rw [if_neg q1, if_neg (show ¬ (decide (T 12 k = s) && decide (T 13 k = f)) = true by rw [decide_eq_false q1, Bool.false_and]; decide), nx, ih (k + 1) (by omega) (by omega)]
theorem rk_159 (p : PR h tp n pl T tw hl kn op ln) (h10 : T 2 0 < 10) (d : Nat) : ∃ h', C (d + 7) 159 [(2, 311), (0, 10 + T 2 0)] h = some ((9, 0), h') ∧ FrX h h' ∧ LO tp n op ln h' (waR tp n T tw hl kn pl) := by
  have w := p.1.1
  have hT := p.2.2.2.2.2.1.K
  have t0 := hT.1
  have t1 := hT.2.1
  have t2 := hT.2.2.1
  have r1 := rk_153 p (d + 3)
  unfold waR
  by_cases q1 : nxk (tkn tp n pl) (tSitr T (wL tp n pl)) = 0
  · have hs := nxk_in q1
    rw [if_pos q1] at r1
    rw [if_neg (fun u => u q1)]
    generalize tSitr T (wL tp n pl) = s at *
    obtain ⟨h1, a1, f1, p1⟩ := rk_148p p d
    have w1 := f1.1
    have r2 := rk_154 p1 (d + 3)
    have e9 : C (d + 7) 159 [(2, 311), (0, 10 + T 2 0)] h = V (d + 7) 159 9 [(2, 311), (0, 10 + T 2 0), (0, s), (9, 0), (9, 0)] [] h1 := by
      rw [ce_159, e159_0, if_pos (F_a311 w), Cl_eq _ r1, if_pos (F_a311 w), Cl_eq _ a1]
    rw [e9]
    generalize adv tp n pl = pl1 at *
    by_cases q2 : nxk (tkn tp n pl1) (tFeat T (wL tp n pl1)) = 0
    · have hf := nxk_inF q2
      rw [if_pos q2] at r2
      rw [if_neg (fun u => u q2)]
      generalize tFeat T (wL tp n pl1) = f at *
      have lp := wa_lp p1 s f (d + 6) (T 2 0).toNat 0 (by decide) (by omega)
      rw [show (10 : Int) + 0 = 10 by decide] at lp
      rw [e159_9, if_pos (F_a311 w1), Cl_eq _ r2, lp]
      show ∃ h', (if tPiec T s f = -1 then _ else _) = _ ∧ _
      by_cases q3 : tPiec T s f = -1
      · rw [if_pos q3, if_neg (fun u => u q3)]
        obtain ⟨h2, a2, f2, p2⟩ := rk_148p p1 d
        have w2 := f2.1
        generalize adv tp n pl1 = pl2 at *
        obtain ⟨ok3, no3⟩ := rk_149 p2.pp (lo := 0) (hi := 99) (by decide) (by decide) d
        rw [e159_64, if_pos (F_a311 w1), Cl_eq _ a2, if_pos (F_a311 w2)]
        by_cases q4 : nck tp n pl2 0 99 = 0
        · obtain ⟨h3, a3, f3, p3, b3⟩ := rk_149P p2 (lo := 0) (hi := 99) (by decide) (by decide) q4 d
          have w3 := f3.1
          rw [Cl_eq _ a3, if_neg (fun u => u q4), e159_77, if_pos (F_a311 w3), p3.2.2.2.1, if_pos rfl]
          generalize wN tp n pl2 = v at *
          generalize adv tp n pl2 = pl3 at *
          have wa : WF (st h3 322 (10 + T 2 0) s) := wf_st w3 (npt_A (by decide +kernel) _)
          have wb : WF (st (st h3 322 (10 + T 2 0) s) 323 (10 + T 2 0) f) := wf_st wa (npt_A (by decide +kernel) _)
          have wc : WF (st (st (st h3 322 (10 + T 2 0) s) 323 (10 + T 2 0) f) 324 (10 + T 2 0) v) := wf_st wb (npt_A (by decide +kernel) _)
          have c2 := (PR_c0 p3).2.2.1
          have r156 := rk_156 wc (x := 2) (by decide) (d + 6)
          rw [show (7 : Int) + 2 = 9 by decide, ld_st_ne (Or.inl (by decide)), ld_st_ne (Or.inl (by decide)), ld_st_ne (Or.inl (by decide)), c2, show w32 (T 2 0 + 1) = T 2 0 + 1 by unfold w32; omega] at r156
          have wd : WF (st (st (st (st h3 322 (10 + T 2 0) s) 323 (10 + T 2 0) f) 324 (10 + T 2 0) v) 313 9 (T 2 0 + 1)) := wf_st wc (n313 _)
          refine ⟨st (st (st (st h3 322 (10 + T 2 0) s) 323 (10 + T 2 0) f) 324 (10 + T 2 0) v) 313 9 (T 2 0 + 1), ?_, ?_, ?_⟩
          · rw [e159_85, if_pos (F_a311 w3), P_311_12 w3, if_pos (W_a322 w3), L_a322 w3, if_pos (by omega), e159_92, if_pos (F_a311 wa), P_311_13 wa, if_pos (W_a323 wa), L_a323 wa, if_pos (by omega), e159_99, if_pos (F_a311 wb), P_311_14 wb, if_pos (W_a324 wb), L_a324 wb, if_pos (by omega), e159_107, if_pos (F_a311 wc), Cl_eq _ r156]
          · exact FrX_tr (FrX_L f1) (FrX_tr (FrX_L f2) (FrX_tr (FrX_L f3) (FrX_tr (FrX_in wa (by decide) (by rw [show hfA 322 = 10 by decide]; omega)) (FrX_tr (FrX_in wb (by decide) (by rw [show hfA 323 = 10 by decide]; omega)) (FrX_tr (FrX_in wc (by decide) (by rw [show hfA 324 = 10 by decide]; omega)) (FrX_in wd (by decide) (by decide)))))))
          · have p6 := p3.2.2.2.2.2.1
            have k0 : ld (shf h3) 313 2 = T 2 0 := rt2 p6
            have i3 := p6.2.2.2.1
            have g : ∀ a j, a ≠ 322 → a ≠ 323 → a ≠ 324 → ¬ (a = 313 ∧ j = 9) → ld (st (st (st (st h3 322 (10 + T 2 0) s) 323 (10 + T 2 0) f) 324 (10 + T 2 0) v) 313 9 (T 2 0 + 1)) a j = ld h3 a j := fun a j e1 e2 e3 e4 => by
              rw [ld_st_ne (by omega), ld_st_ne (Or.inl e3), ld_st_ne (Or.inl e2), ld_st_ne (Or.inl e1)]
            have eT := tR_tPie (g := shf h3) (g1 := shf (st (st (st (st h3 322 (10 + T 2 0) s) 323 (10 + T 2 0) f) 324 (10 + T 2 0) v) 313 9 (T 2 0 + 1))) (u := s) (v := f) (x := v) (by rw [k0]; omega) (by rw [k0, shf_in _ (by decide), show (2 : Int) + hfA 313 = 9 by decide, ld_st_eq]) (fun j hj => by rw [shf_in _ (by decide), shf_in _ (by decide), show hfA 313 = 7 by decide, g _ _ (by decide) (by decide) (by decide) (by omega)]) (fun j => by
              rw [k0, shf_in _ (by decide), shf_in _ (by decide), show hfA 322 = 10 by decide, ld_st_ne (Or.inl (by decide)), ld_st_ne (Or.inl (by decide)), ld_st_ne (Or.inl (by decide)), ld_up]
              by_cases y : j = T 2 0
              · rw [if_pos y, if_pos (by omega)]
              · rw [if_neg y, if_neg (by omega)]) (fun j => by
              rw [k0, shf_in _ (by decide), shf_in _ (by decide), show hfA 323 = 10 by decide, ld_st_ne (Or.inl (by decide)), ld_st_ne (Or.inl (by decide)), ld_up]
              by_cases y : j = T 2 0
              · rw [if_pos y, if_pos (by omega)]
              · rw [if_neg y, if_neg (by omega), ld_st_ne (Or.inl (by decide))]) (fun j => by
              rw [k0, shf_in _ (by decide), shf_in _ (by decide), show hfA 324 = 10 by decide, ld_st_ne (Or.inl (by decide)), ld_up]
              by_cases y : j = T 2 0
              · rw [if_pos y, if_pos (by omega)]
              · rw [if_neg y, if_neg (by omega), ld_st_ne (Or.inl (by decide)), ld_st_ne (Or.inl (by decide))]) (fun a j e1 e2 e3 => by rw [shf_in _ (by omega), shf_in _ (by omega), g _ _ (by omega) (by omega) (by omega) (by omega)])
            rw [p6.2.1] at eT
            exact PR_mk p3 wd (fun j => g 311 j (by decide) (by decide) (by decide) (by omega)) (fun j => g 312 j (by decide) (by decide) (by decide) (by omega)) eT (TOK_pie hT h10 ⟨hs.1, by omega⟩ ⟨hf.1, by omega⟩ b3) (I32_pie i3 ⟨t2.1, h10⟩ (I32_of (by omega)) (I32_of (by omega)) (I32_of (by omega))) (fun x hx _ => funext fun i => by unfold tPie; rw [if_neg (by omega), if_neg (by omega), if_neg (by omega), if_neg (by omega)]) p3.2.2.2.2.2.2.2.2.2.2.2.2.2.2.2.2.1 (TX_eq p3.2.2.2.2.2.2.2.2.2.2.2.2.2.2.2.2.2.2 (fun x hx => funext fun i => by unfold tPie; rw [if_neg (by omega), if_neg (by omega), if_neg (by omega), if_neg (by omega)])) (fun a j ha => g a j (by omega) (by omega) (by omega) (by omega)) (g _ _ (by decide) (by decide) (by decide) (by decide)) (g _ _ (by decide) (by decide) (by decide) (by decide)) ((g _ _ (by decide) (by decide) (by decide) (by decide)).trans p3.2.2.2.2.2.2.1)
        · have n3 := no3 q4
          have wf := flt_w w2 (nck tp n pl2 0 99) pl2
          rw [Cl_eq _ n3, if_pos q4, e159_77, if_pos (F_a311 wf), flt_30, if_neg q4]
          exact ⟨_, rfl, FrX_tr (FrX_L f1) (FrX_tr (FrX_L f2) (flt_F w2 _ _)), q4, flt_30 _ _ _, flt_31 _ _ _⟩
      · rw [if_neg q3, if_pos q3]
        exact ⟨_, rfl, FrX_tr (FrX_L f1) (flt_F w1 _ _), by decide, flt_30 _ _ _, flt_31 _ _ _⟩
    · have wf := flt_w w1 (nxk (tkn tp n pl1) (tFeat T (wL tp n pl1))) pl1
      rw [if_neg q2] at r2
      rw [if_pos q2]
      refine ⟨_, ?_, FrX_tr (FrX_L f1) (flt_F w1 _ _), q2, flt_30 _ _ _, flt_31 _ _ _⟩
      rw [e159_9, if_pos (F_a311 w1), Cl_eq _ r2, wa_f18 wf (by rw [flt_30]; exact q2)]
  · have wf := flt_w w (nxk (tkn tp n pl) (tSitr T (wL tp n pl))) pl
    rw [if_neg q1] at r1
    rw [if_pos q1]
    refine ⟨_, ?_, flt_F w _ _, q1, flt_30 _ _ _, flt_31 _ _ _⟩
    rw [ce_159, e159_0, if_pos (F_a311 w), Cl_eq _ r1, if_pos (F_a311 wf), Cl_eq _ (rk_148f wf (by rw [flt_30]; exact q1) (d + 6)), wa_f9 wf (by rw [flt_30]; exact q1) _ _ (d + 4)]
end WN
