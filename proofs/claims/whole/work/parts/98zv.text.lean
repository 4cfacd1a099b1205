/-! layer 2: the plain program reads a text -/
section TX3
variable {h h' : Hp} {z : Zt} {n : Int}
def FrT (h h' : Hp) : Prop := WF h' ∧ h'.2 = h.2 ∧ ∀ a j : Int, ¬ (a = 311 ∧ (j = 0 ∨ j = 2 ∨ (23 ≤ j ∧ j ≤ 35))) → ¬ ((313 ≤ a ∧ a ≤ 332) ∧ hfA a ≤ j) → ld h' a j = ld h a j
theorem FrT_tr {h1 h2 : Hp} (f : FrT h h1) (g : FrT h1 h2) : FrT h h2 := ⟨g.1, g.2.1.trans f.2.1, fun a j e1 e2 => (g.2.2 a j e1 e2).trans (f.2.2 a j e1 e2)⟩
theorem FrT_X (f : FrX h h') : FrT h h' := ⟨f.1, f.2.1, fun a j e1 e2 => f.2.2 a j (fun u => e1 ⟨u.1, by omega⟩) e2⟩
theorem FrT_st (w : WF h) {j : Int} (hj : j = 0 ∨ j = 2 ∨ (23 ≤ j ∧ j ≤ 35)) (v : Int) : FrT h (st h 311 j v) := by
  refine ⟨wf_st w (npt_J ?_), rfl, fun a i e1 _ => ld_st_ne (by omega)⟩
  have : j = 0 ∨ j = 2 ∨ j = 23 ∨ j = 24 ∨ j = 25 ∨ j = 26 ∨ j = 27 ∨ j = 28 ∨ j = 29 ∨ j = 30 ∨ j = 31 ∨ j = 32 ∨ j = 33 ∨ j = 34 ∨ j = 35 := by omega
  rcases this with rfl | rfl | rfl | rfl | rfl | rfl | rfl | rfl | rfl | rfl | rfl | rfl | rfl | rfl | rfl <;> decide +kernel
theorem RR_err (c : RR n h z) (f : FrT h h') {tn k pc : Int} (e2 : ld h' 311 2 = tn) (e32 : ld h' 311 32 = k) (e33 : ld h' 311 33 = pc) : RR n h' (z.setFlt tn k pc) := by
  have fo : ∀ a P, RK h a z.T P → RK h' a z.T P := fun a P hk => ⟨RT_hf hk.1 f.1 (fun x j u v j0 j1 => f.2.2 x j (by omega) (by omega)), hk.2.1, (sR_eq (fun x j u v => f.2.2 x j (by omega) (by omega))).trans hk.2.2.1, hk.2.2.2⟩
  have fa : ∀ x j, ((345 ≤ x ∧ x ≤ 347) ∨ x = 312 ∨ (352 ≤ x ∧ x ≤ 354)) → ld h' x j = ld h x j := fun x j e => f.2.2 x j (by omega) (by omega)
  have fb : ∀ j, (j = 51 ∨ j = 52 ∨ j = 53 ∨ j = 54 ∨ j = 67 ∨ j = 68) → ld h' 311 j = ld h 311 j := fun j e => f.2.2 311 j (by omega) (by omega)
  refine ⟨fo 0 _ c.k, c.tx, c.iv, c.nb, fun j j0 j1 => (fa 312 j (by omega)).trans (c.tp j j0 j1), e2, e32, e33, (f.2.2 313 6 (by decide) (by decide)).trans c.kk, fun e => (fb 51 (by decide)).trans (c.im0 e), fun I e => ?_, fun w t w0 w1 t0 t1 => (fa _ _ (by omega)).trans (c.dg w t w0 w1 t0 t1), (fb 52 (by decide)).trans c.pz, c.pl, fun i P e => ?_, (fb 67 (by decide)).trans c.sz, c.szb, (fb 68 (by decide)).trans c.kb, c.kbb, fun k k0 k1 => ?_, (fb 53 (by decide)).trans c.t53, (fb 54 (by decide)).trans c.t54⟩
  · obtain ⟨i1, i2, i3, i4, i5⟩ := c.im1 I e
    exact ⟨(fb 51 (by decide)).trans i1, fo 2 I i2, i3, i4, fun w t w0 w1 t0 t1 => (fa _ _ (by omega)).trans (i5 w t w0 w1 t0 t1)⟩
  · obtain ⟨p1, p2, p3⟩ := c.past i P e
    exact ⟨fo _ P p1, p2, p3⟩
  · have := c.sk k k0 k1
    rw [fa 354 k (by omega), fa 352 k (by omega), fa 353 k (by omega)]
    exact this
/-- the counts are set back -/
theorem lp_47 (d : Nat) : ∀ (m : Nat) (k : Int) (h1 : Hp), 0 ≤ k → k + m = 7 → WF h1 → ∃ h', V d 174 47 [(2, 311), (9, 0), (0, k)] [] h1 = V d 174 69 [(2, 311), (9, 0), (9, 0)] [] h' ∧ WF h' ∧ h'.2 = h1.2 ∧ (∀ a j : Int, ¬ (a = 313 ∧ 7 + k ≤ j ∧ j ≤ 13) → ld h' a j = ld h1 a j) ∧ (∀ j : Int, 7 + k ≤ j → j ≤ 13 → ld h' 313 j = 0) := by
  intro m
  induction m with
  | zero =>
    intro k h1 k0 hk w1
    exact ⟨h1, by rw [e174_47, if_neg (by omega)], w1, rfl, fun _ _ _ => rfl, fun j j0 j1 => by omega⟩
  | succ m ih =>
    intro k h1 k0 hk w1
    have w2 : WF (st h1 313 (7 + k) 0) := wf_st w1 (n313 _)
    obtain ⟨h', a', w', s', f', z'⟩ := ih (k + 1) _ (by omega) (by omega) w2
    refine ⟨h', ?_, w', s', fun a j u => (f' a j (by omega)).trans (ld_st_ne (by omega)), fun j j0 j1 => ?_⟩
    · rw [e174_47, if_pos (by omega), if_pos (F_a311 w1), P_311_3 w1, if_pos (W_a313 w1), L_a313 w1, show w32 (7 + k) = 7 + k by unfold w32; omega, if_pos (by omega), e174_63, show w32 (k + 1) = k + 1 by unfold w32; omega, a']
    · by_cases y : j = 7 + k
      · rw [y, f' 313 (7 + k) (by omega), ld_st_eq]
      · exact z' j (by omega) j1
theorem lp_71 (d : Nat) : ∀ (m : Nat) (k : Int) (h1 : Hp), 3 ≤ k → k + m = 6 → WF h1 → ∃ h', V d 174 71 [(2, 311), (9, 0), (0, k)] [] h1 = V d 174 97 [(2, 311), (9, 0), (9, 0)] [] h' ∧ WF h' ∧ h'.2 = h1.2 ∧ (∀ a j : Int, ¬ ((a = 329 ∨ a = 330) ∧ k ≤ j ∧ j ≤ 5) → ld h' a j = ld h1 a j) ∧ (∀ j : Int, k ≤ j → j ≤ 5 → ld h' 329 j = 0 ∧ ld h' 330 j = 0) := by
  intro m
  induction m with
  | zero =>
    intro k h1 k0 hk w1
    exact ⟨h1, by rw [e174_71, if_neg (by omega)], w1, rfl, fun _ _ _ => rfl, fun j j0 j1 => by omega⟩
  | succ m ih =>
    intro k h1 k0 hk w1
    have w2 : WF (st h1 329 k 0) := wf_st w1 (npt_A (by decide +kernel) _)
    have w3 : WF (st (st h1 329 k 0) 330 k 0) := wf_st w2 (npt_A (by decide +kernel) _)
    obtain ⟨h', a', w', s', f', z'⟩ := ih (k + 1) _ (by omega) (by omega) w3
    refine ⟨h', ?_, w', s', fun a j u => (f' a j (by omega)).trans ((ld_st_ne (by omega)).trans (ld_st_ne (by omega))), fun j j0 j1 => ?_⟩
    · rw [e174_71, if_pos (by omega), if_pos (F_a311 w1), P_311_19 w1, if_pos (W_a329 w1), L_a329 w1, if_pos (by omega), e174_84, if_pos (F_a311 w2), P_311_20 w2, if_pos (W_a330 w2), L_a330 w2, if_pos (by omega), e174_91, show w32 (k + 1) = k + 1 by unfold w32; omega, a']
    · by_cases y : j = k
      · rw [y, f' 329 k (by omega), f' 330 k (by omega)]
        exact ⟨by rw [ld_st_ne (Or.inl (by decide)), ld_st_eq], ld_st_eq _ _ _ _⟩
      · exact z' j (by omega) j1
theorem TX_0 : TX (fun _ _ => 0) := ⟨fun k hk => ⟨fun i i0 i1 => absurd i1 (by show ¬ i < 0; omega), fun u => absurd (show (0 : Int) < 0 from u) (by decide)⟩, fun s s0 s1 => absurd s1 (by show ¬ s < 0; omega)⟩
theorem TOK_0 : TOK (fun _ _ => 0) := ⟨by decide, by decide, by decide, by decide, fun p p0 p1 => absurd p1 (by show ¬ p < 0; omega), fun p p0 p1 => absurd p1 (by show ¬ p < 0; omega), fun p p0 p1 => absurd p1 (by show ¬ p < 0; omega)⟩
/-- the reader at the beginning of a text -/
theorem PR_ini {tp : Int → Int} {x pl : Int} (p : PP h tp x pl) (z13 : ∀ j : Int, 7 ≤ j → j ≤ 13 → ld h 313 j = 0) (z29 : ∀ j : Int, 3 ≤ j → j ≤ 5 → ld h 329 j = 0 ∧ ld h 330 j = 0) (e : ∀ j : Int, j = 23 ∨ j = 24 ∨ j = 34 ∨ j = 35 → ld h 311 j = 0) : PR h tp x pl (fun _ _ => 0) 0 0 0 0 0 := by
  have w := p.1.1
  have s13 : ∀ j : Int, 0 ≤ j → j ≤ 6 → ld (shf h) 313 j = 0 := fun j a b => by rw [shf_in _ (by decide), show hfA 313 = 7 by decide]; exact z13 _ (by omega) (by omega)
  have s29 : ∀ j : Int, 0 ≤ j → j ≤ 2 → ld (shf h) 329 j = 0 ∧ ld (shf h) 330 j = 0 := fun j a b => by
    rw [shf_in _ (by decide), shf_in _ (by decide), show hfA 329 = 3 by decide, show hfA 330 = 3 by decide]; exact z29 _ (by omega) (by omega)
  have r0 : ∀ i v : Int, rng i 0 v = 0 := fun i v => by unfold rng; rw [if_neg (by omega)]
  have hh : ∀ i, hailAt (shf h) i = false := fun i => by
    unfold hailAt; rw [s13 5 (by decide) (by decide)]; rfl
  have eT : tR (shf h) = fun _ _ => 0 := by
    funext f i
    have q29 : ∀ j : Int, 0 ≤ j → j ≤ 2 → ld (shf h) 330 j - ld (shf h) 329 j = 0 := fun j a b => by rw [(s29 j a b).1, (s29 j a b).2]; rfl
    have r100 : rng i 100 0 = 0 := by unfold rng; split <;> rfl
    unfold tR
    split <;> first | rfl | (simp only [s13 0 (by decide) (by decide), s13 1 (by decide) (by decide), s13 2 (by decide) (by decide), s13 3 (by decide) (by decide), r0, hh, bI_f, r100, q29 0 (by decide) (by decide), q29 1 (by decide) (by decide), q29 2 (by decide) (by decide)])
  have b0 : ∀ k : Nat, k < 3 → bt 0 (1 + (k : Int)) = 0 := fun k hk => by
    have h3 : k = 0 ∨ k = 1 ∨ k = 2 := by omega
    rcases h3 with rfl | rfl | rfl <;> decide
  refine ⟨p.1, p.2.1, p.2.2.1, p.2.2.2.1, p.2.2.2.2, ⟨shf_wf w, eT, TOK_0, fun _ _ => (I32_of (by decide) : I32 0), fun k a b => by rw [(s29 k a (by omega)).1, (s29 k a (by omega)).2]; decide, by rw [s13 5 (by decide) (by decide)]; decide⟩, z13 11 (by decide) (by decide), by rw [e 23 (by decide)]; decide, fun k hk => by rw [e 23 (by decide), b0 k hk]; rfl, by rw [e 23 (by decide)]; decide, e 35 (by decide), e 34 (by decide), e 24 (by decide), ⟨z13 13 (by decide) (by decide), fun k a b => by rw [(z29 (3 + k) (by omega) (by omega)).2, z13 13 (by decide) (by decide)]; decide, by decide, by decide, fun _ _ => rfl, TX_0⟩⟩
theorem rk_174 (c : RR n h z) (hby : ∀ j : Int, 0 ≤ j → j < 700 → 0 ≤ z.tp j ∧ z.tp j ≤ 255) (htn : z.tn ≤ 700) (x : Int) (d : Nat) : OPr n h z (d + 190) 174 [(2, 311), (0, x)] 0 (zText x z).1 n (zText x z).2 := by
  have w := c.k.w
  obtain ⟨c0, fm0⟩ := RR_0 c 0
  have f0 : FrT h (st h 311 0 0) := FrT_st w (by decide) 0
  have w0 := f0.1
  unfold zText
  by_cases q : x < 0 ∨ z.tn < x
  · rw [if_pos q]
    refine ⟨st h 311 0 0, ?_, c0, fm0⟩
    rw [ce_174, e174_0, if_pos (W_a311 w)]
    by_cases q0 : x < 0
    · rw [if_pos q0, e174_17]
    · rw [if_neg q0, e174_9, if_pos (F_a311 w0), c0.tn, if_pos (q.resolve_left q0), e174_17]
  · rw [if_neg q]
    have f1 := FrT_st w0 (j := 25) (by decide) x
    have f2 := FrT_st f1.1 (j := 2) (by decide) 0
    have f3 := FrT_st f2.1 (j := 26) (by decide) 0
    have f4 := FrT_st f3.1 (j := 30) (by decide) 0
    have f5 := FrT_st f4.1 (j := 31) (by decide) (-1)
    have fA := FrT_tr f0 (FrT_tr f1 (FrT_tr f2 (FrT_tr f3 (FrT_tr f4 f5))))
    have eA : C (d + 190) 174 [(2, 311), (0, x)] h = V (d + 190) 174 47 [(2, 311), (9, 0), (0, 0)] [] (st (st (st (st (st (st h 311 0 0) 311 25 x) 311 2 0) 311 26 0) 311 30 0) 311 31 (-1)) := by
      rw [ce_174, e174_0, if_pos (W_a311 w), if_neg (fun u => q (Or.inl u)), e174_9, if_pos (F_a311 w0), c0.tn, if_neg (fun u => q (Or.inr u)), e174_20, if_pos (W_a311 w0), if_pos (W_a311 f1.1), e174_30, if_pos (W_a311 f2.1), if_pos (W_a311 f3.1), e174_40, if_pos (W_a311 f4.1)]
    have A25 : ld (st (st (st (st (st (st h 311 0 0) 311 25 x) 311 2 0) 311 26 0) 311 30 0) 311 31 (-1)) 311 25 = x := by
      rw [ld_st_ne (Or.inr (by decide)), ld_st_ne (Or.inr (by decide)), ld_st_ne (Or.inr (by decide)), ld_st_ne (Or.inr (by decide)), ld_st_eq]
    have A2 : ld (st (st (st (st (st (st h 311 0 0) 311 25 x) 311 2 0) 311 26 0) 311 30 0) 311 31 (-1)) 311 2 = 0 := by
      rw [ld_st_ne (Or.inr (by decide)), ld_st_ne (Or.inr (by decide)), ld_st_ne (Or.inr (by decide)), ld_st_eq]
    have A26 : ld (st (st (st (st (st (st h 311 0 0) 311 25 x) 311 2 0) 311 26 0) 311 30 0) 311 31 (-1)) 311 26 = 0 := by
      rw [ld_st_ne (Or.inr (by decide)), ld_st_ne (Or.inr (by decide)), ld_st_eq]
    have A30 : ld (st (st (st (st (st (st h 311 0 0) 311 25 x) 311 2 0) 311 26 0) 311 30 0) 311 31 (-1)) 311 30 = 0 := by
      rw [ld_st_ne (Or.inr (by decide)), ld_st_eq]
    have A31 : ld (st (st (st (st (st (st h 311 0 0) 311 25 x) 311 2 0) 311 26 0) 311 30 0) 311 31 (-1)) 311 31 = -1 := ld_st_eq _ _ _ _
    generalize st (st (st (st (st (st h 311 0 0) 311 25 x) 311 2 0) 311 26 0) 311 30 0) 311 31 (-1) = hA at *
    obtain ⟨hD, aD, wD, sD, fD, zD⟩ := lp_47 (d + 190) 7 0 hA (by decide) (by decide) fA.1
    obtain ⟨hE, aE, wE, sE, fE, zE⟩ := lp_71 (d + 190) 3 3 hD (by decide) (by decide) wD
    have g1 := FrT_st wE (j := 23) (by decide) 0
    have g2 := FrT_st g1.1 (j := 24) (by decide) 0
    have g3 := FrT_st g2.1 (j := 34) (by decide) 0
    have g4 := FrT_st g3.1 (j := 35) (by decide) 0
    have eG : V (d + 190) 174 47 [(2, 311), (9, 0), (0, 0)] [] hA = V (d + 190) 174 117 [(2, 311), (9, 0), (9, 0)] [] (st (st (st (st hE 311 23 0) 311 24 0) 311 34 0) 311 35 0) := by
      rw [aD, e174_69, aE, e174_97, if_pos (W_a311 wE), if_pos (W_a311 g1.1), e174_107, if_pos (W_a311 g2.1), if_pos (W_a311 g3.1)]
    have G : ∀ j : Int, j = 23 ∨ j = 24 ∨ j = 34 ∨ j = 35 → ld (st (st (st (st hE 311 23 0) 311 24 0) 311 34 0) 311 35 0) 311 j = 0 := fun j hj => by
      rcases hj with rfl | rfl | rfl | rfl <;> rfl
    have gE : ∀ a j : Int, ¬ (a = 311 ∧ (j = 23 ∨ j = 24 ∨ j = 34 ∨ j = 35)) → ld (st (st (st (st hE 311 23 0) 311 24 0) 311 34 0) 311 35 0) a j = ld hE a j := fun a j u => by
      rw [ld_st_ne (by omega), ld_st_ne (by omega), ld_st_ne (by omega), ld_st_ne (by omega)]
    have fDE : FrT hA hE := ⟨wE, sE.trans sD, fun a j e1 e2 => (fE a j (fun u => e2 ⟨by omega, by
        rcases u.1 with y | y <;> rw [y]
        · rw [show hfA 329 = 3 by decide]; omega
        · rw [show hfA 330 = 3 by decide]; omega⟩)).trans (fD a j (fun u => e2 ⟨by omega, by rw [u.1, show hfA 313 = 7 by decide]; omega⟩))⟩
    have fG : FrT h (st (st (st (st hE 311 23 0) 311 24 0) 311 34 0) 311 35 0) := FrT_tr fA (FrT_tr fDE (FrT_tr g1 (FrT_tr g2 (FrT_tr g3 g4))))
    have wG := g4.1
    have hE11 : ∀ j, ld hE 311 j = ld hA 311 j := fun j => (fE 311 j (by omega)).trans (fD 311 j (by omega))
    rw [eA.trans eG |> fun e => (show OPr n h z (d + 190) 174 [(2, 311), (0, x)] 0 _ n _ ↔ _ from by unfold OPr; rw [e])]
    generalize st (st (st (st hE 311 23 0) 311 24 0) 311 34 0) 311 35 0 = hG at *
    have rc : RC hG z.tp x 0 := ⟨wG, fun j j0 j1 => ⟨(fG.2.2 312 j (by omega) (by omega)).trans (c.tp j j0 j1), hby j j0 j1⟩, by rw [gE 311 25 (by decide), hE11, A25], by omega, by rw [gE 311 26 (by decide), hE11, A26], by decide, by omega⟩
    obtain ⟨h1, a1, fl1, rc1, e27, ls⟩ := rk_141 rc (d + 184)
    have w1 := fl1.1
    have p1 : PP h1 z.tp x (lxP z.tp x 0) := ⟨rc1, e27, ls, by rw [fl1.2.2 311 30 (by omega), gE 311 30 (by decide), hE11, A30], by rw [fl1.2.2 311 31 (by omega), gE 311 31 (by decide), hE11, A31]⟩
    have pr : PR h1 z.tp x (lxP z.tp x 0) (fun _ _ => 0) 0 0 0 0 0 := PR_ini p1 (fun j j0 j1 => by rw [fl1.2.2 313 j (by omega), gE 313 j (by omega), fE 313 j (by omega)]; exact zD j (by omega) j1) (fun j j0 j1 => by
      rw [fl1.2.2 329 j (by omega), gE 329 j (by omega), fl1.2.2 330 j (by omega), gE 330 j (by omega)]; exact zE j j0 j1) (fun j hj => by rw [fl1.2.2 311 j (by omega)]; exact G j hj)
    have lx0 := (lxr_b cws z.tp (x - 0).toNat 0).1
    obtain ⟨h2, a2, fx2, r2⟩ := rk_lines (tp := z.tp) (n := x) (d + 9) 701 (fun _ _ => 0) 0 0 0 (lxP z.tp x 0) 0 h1 pr ⟨by decide, by decide, by decide⟩ (by decide) (by decide) (by unfold lxP; omega)
    have f02 : FrT h h2 := FrT_tr fG (FrT_tr (FrT_X (FrX_L fl1)) (FrT_X fx2))
    have w2 := f02.1
    have h22 : ld h2 311 2 = 0 := by rw [fx2.2.2 311 2 (by decide) (by decide), fl1.2.2 311 2 (by decide), gE 311 2 (by decide), hE11, A2]
    have k1 := FrT_st w2 (j := 32) (by decide) (ld h2 311 30)
    have k2 := FrT_st k1.1 (j := 33) (by decide) (ld h2 311 31)
    have e143 : V (d + 190) 174 117 [(2, 311), (9, 0), (9, 0)] [] hG = V (d + 190) 174 159 [(2, 311), (9, 0), (9, 0)] [] (st (st h2 311 32 (ld h2 311 30)) 311 33 (ld h2 311 31)) := by
      rw [e174_117, if_pos (F_a311 wG), Cl_eq _ a1, a2, e174_143, if_pos (F_a311 w2), if_pos (W_a311 w2), if_pos (F_a311 k1.1), if_pos (W_a311 k1.1), ld_st_ne (Or.inr (by decide))]
    rw [e143]
    have f03 : FrT h (st (st h2 311 32 (ld h2 311 30)) 311 33 (ld h2 311 31)) := FrT_tr f02 (FrT_tr k1 k2)
    have m32 : ld (st (st h2 311 32 (ld h2 311 30)) 311 33 (ld h2 311 31)) 311 32 = ld h2 311 30 := by rw [ld_st_ne (Or.inr (by decide)), ld_st_eq]
    have m33 : ld (st (st h2 311 32 (ld h2 311 30)) 311 33 (ld h2 311 31)) 311 33 = ld h2 311 31 := ld_st_eq _ _ _ _
    have mo : ∀ a j : Int, ¬ (a = 311 ∧ (j = 32 ∨ j = 33)) → ld (st (st h2 311 32 (ld h2 311 30)) 311 33 (ld h2 311 31)) a j = ld h2 a j := fun a j u => by rw [ld_st_ne (by omega), ld_st_ne (by omega)]
    have w3 := k2.1
    generalize st (st h2 311 32 (ld h2 311 30)) 311 33 (ld h2 311 31) = h3 at *
    have frm : ∀ {hh : Hp}, FrT h hh → FrM h hh := fun f => ⟨f.2.1, fun a j u => f.2.2 a j (by omega) (by omega)⟩
    generalize rdL z.tp x 701 (fun _ _ => 0) 0 0 0 (lxP z.tp x 0) 0 = R at *
    cases R with
    | error e =>
      obtain ⟨k, pc, lnn⟩ := e
      obtain ⟨b0, b1, b2⟩ := r2
      refine ⟨h3, ?_, RR_err c f03 (by rw [mo 311 2 (by decide), h22]) (m32.trans b1) (m33.trans b2), frm f03⟩
      rw [e174_159, if_pos (F_a311 w3), mo 311 30 (by decide), b1, if_neg b0]
    | ok v =>
      obtain ⟨T, tw, hl, kn, ln⟩ := v
      obtain ⟨pl, p2⟩ := r2
      have p6 := p2.2.2.2.2.2.1
      have kc := p2.2.2.2.2.2.2.2.2.2.2.2.2.2
      have tx := kc.2.2.2.2.2
      obtain ⟨h4, a4, v4⟩ := rk_halves w3 (d + 189)
      have w4 := v4.1
      have rt4 : RT h4 T := RT_hf p6 w4 (fun y j y0 y1 j0 j1 => by
        rw [v4.2.2.2 y j y0 (by omega) j0 j1, mo y _ (by omega), shf_in _ ⟨y0, y1⟩])
      have v4o : ∀ a j : Int, ¬ (313 ≤ a ∧ a < 333) → ld h4 a j = ld h3 a j := v4.2.2.1
      have x1 : WF (st h4 311 67 0) := wf_st w4 (n311 67 (by decide +kernel))
      have x2 : WF (st (st h4 311 67 0) 311 68 (-1)) := wf_st x1 (n311 68 (by decide +kernel))
      have x3 : WF (st (st (st h4 311 67 0) 311 68 (-1)) 311 51 0) := wf_st x2 (n311 51 (by decide +kernel))
      have x4 : WF (st (st (st (st h4 311 67 0) 311 68 (-1)) 311 51 0) 311 52 0) := wf_st x3 (n311 52 (by decide +kernel))
      have y67 : ld (st (st (st (st h4 311 67 0) 311 68 (-1)) 311 51 0) 311 52 0) 311 67 = 0 := rfl
      have y68 : ld (st (st (st (st h4 311 67 0) 311 68 (-1)) 311 51 0) 311 52 0) 311 68 = -1 := rfl
      have y51 : ld (st (st (st (st h4 311 67 0) 311 68 (-1)) 311 51 0) 311 52 0) 311 51 = 0 := rfl
      have y52 : ld (st (st (st (st h4 311 67 0) 311 68 (-1)) 311 51 0) 311 52 0) 311 52 = 0 := rfl
      have yo : ∀ a j : Int, ¬ (a = 311 ∧ (j = 51 ∨ j = 52 ∨ j = 67 ∨ j = 68)) → ld (st (st (st (st h4 311 67 0) 311 68 (-1)) 311 51 0) 311 52 0) a j = ld h4 a j := fun a j u => by rw [ld_st_ne (by omega), ld_st_ne (by omega), ld_st_ne (by omega), ld_st_ne (by omega)]
      have ys : (st (st (st (st h4 311 67 0) 311 68 (-1)) 311 51 0) 311 52 0).2 = h4.2 := rfl
      have e328 : V (d + 190) 174 168 [(2, 311), (9, 0), (9, 0)] [] h3 = V (d + 190) 174 328 [(2, 311), (9, 0), (9, 0)] [] (st (st (st (st h4 311 67 0) 311 68 (-1)) 311 51 0) 311 52 0) := by
        rw [a4, e174_308, if_pos (W_a311 w4), if_pos (W_a311 x1), e174_318, if_pos (W_a311 x2), if_pos (Or.inl rfl), if_pos (W_a311 x3)]
      generalize st (st (st (st h4 311 67 0) 311 68 (-1)) 311 51 0) 311 52 0 = h5 at *
      have rt5 : RT h5 T := RT_eq rt4 x4 (fun y j y0 y1 => yo y j (by omega))
      obtain ⟨h6, a6, k6, s6, f6⟩ := rk_177 rt5 tx (d + 189)
      have w6 := k6.w
      have o6 : ∀ a j : Int, ¬ (333 ≤ a ∧ a ≤ 342) → ¬ (313 ≤ a ∧ a ≤ 332) → ¬ (a = 311 ∧ (j = 51 ∨ j = 52 ∨ j = 67 ∨ j = 68)) → ld h6 a j = ld h3 a j := fun a j u1 u2 u3 => by
        rw [f6 a j u1, yo a j u3, v4o a j (by omega)]
      have h30 : ld h3 311 30 = 0 := (mo 311 30 (by decide)).trans p2.2.2.2.1
      have e24 : ld h6 311 24 = ln := by
        rw [o6 311 24 (by decide) (by decide) (by decide), mo 311 24 (by decide)]; exact p2.2.2.2.2.2.2.2.2.2.2.2.2.1
      refine ⟨h6, ?_, ?_, s6.trans (ys.trans (v4.2.1.trans f03.2.1)), fun a j u => by
        rw [o6 a j (by omega) (by omega) (by omega)]; exact f03.2.2 a j (by omega) (by omega)⟩
      · rw [e174_159, if_pos (F_a311 w3), h30, if_pos rfl, e328, e174_328, if_pos (F_a311 x4), Cl_eq _ a6, if_pos (F_a311 w6), e24]
      · have b33 : ld h6 311 33 = -1 := by rw [o6 311 33 (by decide) (by decide) (by decide), m33]; exact p2.2.2.2.2.1
        have b32 : ld h6 311 32 = 0 := by rw [o6 311 32 (by decide) (by decide) (by decide), m32]; exact p2.2.2.2.1
        have b6 : ld h6 313 6 = T 19 0 + T 20 0 + T 21 0 := by
          rw [f6 313 6 (by decide), yo 313 6 (by omega), v4.2.2.2 313 6 (by decide) (by decide) (by decide) (by decide), show (6 : Int) + hfA 313 = 13 by decide, mo 313 13 (by decide)]
          exact kc.1
        have h3o : ∀ a j : Int, ¬ (a = 311 ∧ (j = 0 ∨ j = 2 ∨ (23 ≤ j ∧ j ≤ 35))) → ¬ ((313 ≤ a ∧ a ≤ 332) ∧ hfA a ≤ j) → ld h3 a j = ld h a j := f03.2.2
        show RR n h6 (z.setTxt 0 0 (-1) T (sInit T) none [] 0 (-1))
        refine ⟨k6, tx, IV_ini rt5 tx c.nb.1, c.nb, fun j j0 j1 => ?_, ?_, b32, b33, b6, fun _ => ?_, fun I e => (by change (none : Option Wd) = some I at e; cases e), fun w t u0 u1 t0 t1 => absurd t1 (by show ¬ t < 0; omega), ?_, by show (0 : Nat) ≤ 20; decide, fun i P e => (by change ([] : List Wd)[i]? = some P at e; simp at e), ?_, by show (0 : Int) ≤ 0 ∧ (0 : Int) ≤ 24; decide, ?_, by show (-1 : Int) ≤ -1 ∧ (-1 : Int) ≤ 0; decide, fun k k0 k1 => absurd k1 (by show ¬ k < 0; omega), ?_, ?_⟩
        · rw [o6 312 j (by omega) (by omega) (by omega), h3o 312 j (by omega) (by omega)]; exact c.tp j j0 j1
        · rw [o6 311 2 (by decide) (by decide) (by decide), mo 311 2 (by decide)]; exact h22
        · rw [f6 311 51 (by decide)]; exact y51
        · rw [f6 311 52 (by decide)]; exact y52
        · rw [f6 311 67 (by decide)]; exact y67
        · rw [f6 311 68 (by decide)]; exact y68
        · rw [o6 311 53 (by decide) (by decide) (by decide), h3o 311 53 (by decide) (by decide)]; exact c.t53
        · rw [o6 311 54 (by decide) (by decide) (by decide), h3o 311 54 (by decide) (by decide)]; exact c.t54
end TX3
