/-! layer 2: the plain program reads hail -/
section HA
variable {h h' : Hp} {tp : Int → Int} {n pl : Int} {T : Wd} {tw hl kn op ln : Int}
theorem bt_or1 {x : Int} (hx : 0 ≤ x ∧ x < 16) : (0 ≤ or32 x 1 ∧ or32 x 1 < 16) ∧ bt (or32 x 1) 0 = 1 ∧ bt (or32 x 1) 1 = bt x 1 ∧ bt (or32 x 1) 2 = bt x 2 ∧ bt (or32 x 1) 3 = bt x 3 := by
  have : x = 0 ∨ x = 1 ∨ x = 2 ∨ x = 3 ∨ x = 4 ∨ x = 5 ∨ x = 6 ∨ x = 7 ∨ x = 8 ∨ x = 9 ∨ x = 10 ∨ x = 11 ∨ x = 12 ∨ x = 13 ∨ x = 14 ∨ x = 15 := by omega
  rcases this with rfl | rfl | rfl | rfl | rfl | rfl | rfl | rfl | rfl | rfl | rfl | rfl | rfl | rfl | rfl | rfl <;> decide
def hiR (tp : Int → Int) (n : Int) (T : Wd) (tw kn p1 : Int) : LnR :=
  if ¬ tkn tp n p1 = -4 then .error (1, p1) else haL tp n tw kn 13 0 T p1
/-- so many days of hail told -/
def DR (T0 : Wd) (h1 : Hp) (k : Nat) (T : Wd) : Prop := (∀ f, f ≠ 18 → T f = T0 f) ∧ ∀ i, T 18 i = rng i 100 (bI ((List.range k).any (fun x => ld h1 328 ((x : Int) + 12) == i)))
theorem DR_up {T0 : Wd} {h1 h2 : Hp} {k : Nat} {T : Wd} {v : Int} (r : DR T0 h1 k T) (hv : 0 ≤ v ∧ v ≤ 99) (e : ∀ x : Nat, x < k → ld h2 328 ((x : Int) + 12) = ld h1 328 ((x : Int) + 12)) (ev : ld h2 328 ((k : Int) + 12) = v) : DR T0 h2 (k + 1) (up2 T 18 v 1) := by
  refine ⟨fun f hf => ?_, fun i => ?_⟩
  · rw [← r.1 f hf]; funext i; unfold up2; rw [if_neg (fun u => hf u.1)]
  · have e2 : (List.range k).any (fun x => ld h2 328 ((x : Int) + 12) == i) = (List.range k).any (fun x => ld h1 328 ((x : Int) + 12) == i) := by
      rw [Bool.eq_iff_iff, List.any_eq_true, List.any_eq_true]
      refine ⟨fun ⟨x, hx, y⟩ => ⟨x, hx, ?_⟩, fun ⟨x, hx, y⟩ => ⟨x, hx, ?_⟩⟩
      · rw [e x (List.mem_range.mp hx)] at y; exact y
      · rw [e x (List.mem_range.mp hx)]; exact y
    rw [List.range_succ, List.any_append, e2, show [k].any (fun x => ld h2 328 ((x : Int) + 12) == i) = (ld h2 328 ((k : Int) + 12) == i) by simp, ev]
    unfold up2
    by_cases y : i = v
    · rw [if_pos ⟨rfl, y⟩, y, rng_in (by omega), beq_self_eq_true, Bool.or_true]; rfl
    · have : (v == i) = false := by rw [beq_eq_false_iff_ne]; exact fun u => y u.symm
      rw [if_neg (fun u => y u.2), r.2 i, this, Bool.or_false]
theorem tR_hai {T0 T : Wd} {g0 g : Hp} {k : Nat} (r : DR T0 g k T) (e0 : tR (shf g0) = T0) (e5 : ld g 313 12 = (k : Int)) (o : ∀ a j : Int, 313 ≤ a → a ≤ 332 → a ≠ 328 → ¬ (a = 313 ∧ j = 12) → ld g a j = ld g0 a j) : tR (shf g) = T := by
  funext f i
  by_cases q : f = 18
  · subst q
    rw [r.2 i]
    show rng i 100 (bI (hailAt (shf g) i)) = _
    unfold hailAt
    rw [shf_in _ (by decide), show (5 : Int) + hfA 313 = 12 by decide, e5]
    congr 2
  · rw [r.1 f q, ← e0]
    have s : ∀ a j : Int, 313 ≤ a → a ≤ 332 → a ≠ 328 → ¬ (a = 313 ∧ j = 5) → ld (shf g) a j = ld (shf g0) a j := fun a j h1 h2 h3 h4 => by
      rw [shf_in _ ⟨h1, h2⟩, shf_in _ ⟨h1, h2⟩]
      refine o a _ h1 h2 h3 (fun u => h4 ⟨u.1, ?_⟩)
      have := u.2
      rw [u.1, show hfA 313 = 7 by decide] at this
      omega
    have s' : ∀ a j : Int, 314 ≤ a → a ≤ 332 → a ≠ 328 → ld (shf g) a j = ld (shf g0) a j := fun a j h1 h2 h3 => s a j (by omega) h2 h3 (by omega)
    unfold tR
    split <;> first | rfl | exact absurd rfl q | (simp only [s 313 0 (by decide) (by decide) (by decide) (by decide), s 313 1 (by decide) (by decide) (by decide) (by decide), s 313 2 (by decide) (by decide) (by decide) (by decide), s 313 3 (by decide) (by decide) (by decide) (by decide), s' 314 _ (by decide) (by decide) (by decide), s' 315 _ (by decide) (by decide) (by decide), s' 316 _ (by decide) (by decide) (by decide), s' 317 _ (by decide) (by decide) (by decide), s' 318 _ (by decide) (by decide) (by decide), s' 319 _ (by decide) (by decide) (by decide), s' 320 _ (by decide) (by decide) (by decide), s' 321 _ (by decide) (by decide) (by decide), s' 322 _ (by decide) (by decide) (by decide), s' 323 _ (by decide) (by decide) (by decide), s' 324 _ (by decide) (by decide) (by decide), s' 325 _ (by decide) (by decide) (by decide), s' 326 _ (by decide) (by decide) (by decide), s' 327 _ (by decide) (by decide) (by decide), s' 329 _ (by decide) (by decide) (by decide), s' 330 _ (by decide) (by decide) (by decide), s' 331 _ (by decide) (by decide) (by decide), s' 332 _ (by decide) (by decide) (by decide)])
theorem ha_f31 (w : WF h) (q : ¬ ld h 311 30 = 0) (x1 : Int) (d : Nat) : V (d + 1) 163 31 [(2, 311), (0, x1), (9, 0)] [] h = some ((9, 0), h) := by
  rw [e163_31, if_pos (F_a311 w), Cl_eq _ (rk_149f w q 0 99 d), e163_39, if_pos (F_a311 w), if_neg q]
/-- the days, once the first token is a number -/
theorem ha_lp {h0 : Hp} {pl0 : Int} (p0 : PR h0 tp n pl0 T tw 1 kn op ln) (d : Nat) : ∀ (m k : Nat) (T1 : Wd) (pl : Int) (h1 : Hp), k + (m + 1) = 13 → PP h1 tp n pl → tkn tp n pl = -4 → DR T h1 k T1 → h1.2 = h0.2 → (∀ a j : Int, ¬ (a = 311 ∧ 26 ≤ j ∧ j ≤ 29) → ¬ (a = 328 ∧ 12 ≤ j) → ld h1 a j = ld h0 a j) → ∃ h', V (d + 7) 163 12 [(2, 311), (0, (k : Int)), (9, 0)] [] h1 = some ((9, 0), h') ∧ FrX h0 h' ∧ LO tp n op ln h' (haL tp n tw kn (m + 1) (k : Int) T1 pl) := by
  intro m
  induction m with
  | zero =>
    intro k T1 pl h1 hk p1 ht dr f2 fr
    have w1 := p1.1.1
    have wf := flt_w w1 2 pl
    have fx : FrX h0 h1 := ⟨w1, f2, fun a j e1 e2 => fr a j (by omega) (fun u => e2 ⟨by omega, by rw [u.1, show hfA 328 = 12 by decide]; exact u.2⟩)⟩
    have k12 : (k : Int) = 12 := by omega
    refine ⟨flt h1 2 pl, ?_, FrX_tr fx (flt_F w1 2 pl), ?_⟩
    · rw [e163_12, if_pos (F_a311 w1), if_pos ((so_2 p1.2.2.1).mpr ht), if_pos k12, e163_26, if_pos (F_a311 w1), Cl_eq _ (rk_145p p1 2 (d + 6)), ha_f31 wf (by rw [flt_30]; decide)]
    · unfold haL
      rw [if_pos ht, if_pos (Or.inl k12)]
      exact ⟨by decide, flt_30 _ _ _, flt_31 _ _ _⟩
  | succ m ih =>
    intro k T1 pl h1 hk p1 ht dr f2 fr
    have w1 := p1.1.1
    have fx : FrX h0 h1 := ⟨w1, f2, fun a j e1 e2 => fr a j (by omega) (fun u => e2 ⟨by omega, by rw [u.1, show hfA 328 = 12 by decide]; exact u.2⟩)⟩
    obtain ⟨ok, no⟩ := rk_149 p1 (lo := 0) (hi := 99) (by decide) (by decide) d
    obtain ⟨v3, v4⟩ := va_2 p1.2.2.1 ht
    have wn0 : 0 ≤ wN tp n pl := by rw [← v3]; unfold imin; split <;> omega
    have e31 : V (d + 7) 163 12 [(2, 311), (0, (k : Int)), (9, 0)] [] h1 = V (d + 7) 163 31 [(2, 311), (0, (k : Int)), (9, 0)] [] h1 := by
      rw [e163_12, if_pos (F_a311 w1), if_pos ((so_2 p1.2.2.1).mpr ht), if_neg (by omega)]
    rw [e31]
    show ∃ h', _ ∧ _ ∧ LO tp n op ln h' (if tkn tp n pl = -4 then (if (k : Int) = 12 ∨ ¬ wN tp n pl < 100 then .error (2, pl) else haL tp n tw kn (m + 1) ((k : Int) + 1) (up2 T1 18 (wN tp n pl) 1) (adv tp n pl)) else .ok (T1, tw, 1, kn, pl))
    rw [if_pos ht]
    by_cases q : wN tp n pl < 100
    · have n0 : nck tp n pl 0 99 = 0 := by unfold nck; rw [if_pos ht, if_neg (by omega)]
      obtain ⟨h2, a2, g2, p2, b2⟩ := ok n0
      have w2 := g2.1
      rw [if_neg (by omega)]
      generalize wN tp n pl = v at *
      have wk : w32 (12 + (k : Int)) = 12 + (k : Int) := by unfold w32; omega
      have w3 : WF (st h2 328 (12 + (k : Int)) v) := wf_st w2 (npt_A (by decide +kernel) _)
      have p3 := PP_st p2 w3 (by decide)
      have e57 : V (d + 7) 163 31 [(2, 311), (0, (k : Int)), (9, 0)] [] h1 = V (d + 7) 163 57 [(2, 311), (0, (k : Int)), (9, 0)] [] (st h2 328 (12 + (k : Int)) v) := by
        rw [e163_31, if_pos (F_a311 w1), Cl_eq _ a2, e163_39, if_pos (F_a311 w2), p2.2.2.2.1, if_pos rfl, e163_47, if_pos (F_a311 w2), P_311_18 w2, wk, if_pos (W_a328 w2), L_a328 w2, if_pos (by omega)]
      rw [e57]
      have dr3 : DR T (st h2 328 (12 + (k : Int)) v) (k + 1) (up2 T1 18 v 1) := DR_up dr (by omega) (fun x hx => by rw [ld_st_ne (Or.inr (by omega)), g2.2.2 328 _ (by omega)]) (by rw [show (k : Int) + 12 = 12 + (k : Int) by omega, ld_st_eq])
      have f23 : (st h2 328 (12 + (k : Int)) v).2 = h0.2 := g2.2.1.trans f2
      have fr3 : ∀ a j : Int, ¬ (a = 311 ∧ 26 ≤ j ∧ j ≤ 29) → ¬ (a = 328 ∧ 12 ≤ j) → ld (st h2 328 (12 + (k : Int)) v) a j = ld h0 a j := fun a j e1 e2 => by
        rw [ld_st_ne (by omega), g2.2.2 a j (by omega), fr a j e1 e2]
      generalize st h2 328 (12 + (k : Int)) v = h3 at *
      have wk1 : w32 ((k : Int) + 1) = ((k + 1 : Nat) : Int) := by unfold w32; omega
      rw [e163_57, if_pos (F_a311 w3), wk1, show (k : Int) + 1 = ((k + 1 : Nat) : Int) by omega]
      by_cases y : tkn tp n (adv tp n pl) = -4
      · rw [if_pos ((so_2 p3.2.2.1).mpr y)]
        exact ih (k + 1) _ _ h3 (by omega) p3 y dr3 f23 fr3
      · have w4 : WF (st h3 313 12 ((k + 1 : Nat) : Int)) := wf_st w3 (n313 _)
        rw [if_neg (fun u => y ((so_2 p3.2.2.1).mp u)), e163_68, if_pos (F_a311 w3), P_311_3 w3, if_pos (W_a313 w3), L_a313 w3, if_pos (by decide), e163_76]
        have fx3 : FrX h0 h3 := ⟨w3, f23, fun a j e1 e2 => fr3 a j (by omega) (fun u => e2 ⟨by omega, by rw [u.1, show hfA 328 = 12 by decide]; exact u.2⟩)⟩
        refine ⟨_, rfl, FrX_tr fx3 (FrX_in w4 (by decide) (by decide)), ?_⟩
        unfold haL
        rw [if_neg y]
        have p4 := PP_st p3 w4 (by decide)
        have g : ∀ a j : Int, ¬ (a = 311 ∧ 26 ≤ j ∧ j ≤ 29) → ¬ (a = 328 ∧ 12 ≤ j) → ¬ (a = 313 ∧ j = 12) → ld (st h3 313 12 ((k + 1 : Nat) : Int)) a j = ld h0 a j := fun a j e1 e2 e3 => by
          rw [ld_st_ne (by omega), fr3 a j e1 e2]
        obtain ⟨-, -, -, -, -, p6, p7, p8, p9, p10, p11, p12, p13, p14⟩ := id p0
        have dr4 : DR T (st h3 313 12 ((k + 1 : Nat) : Int)) (k + 1) (up2 T1 18 v 1) := by
          refine ⟨dr3.1, fun i => ?_⟩
          rw [dr3.2 i]
          congr 3
        have eT := tR_hai dr4 p6.2.1 (ld_st_eq _ _ _ _) (fun a j e1 e2 e3 e4 => g a j (by omega) (by omega) e4)
        have ef := dr4.1
        generalize up2 T1 18 v 1 = T2 at *
        have e18 := dr4.2
        refine ⟨p4.1, p4.2.1, p4.2.2.1, p4.2.2.2.1, p4.2.2.2.2, ⟨shf_wf w4, eT, ?_, fun f i => ?_, fun x x0 x1 => ?_, ?_⟩, (g 313 11 (by decide) (by decide) (by decide)).trans p7, by rw [g 311 23 (by decide) (by decide) (by decide)]; exact p8, fun x hx => by rw [g 311 23 (by decide) (by decide) (by decide), p9 x hx, ef (19 + x) (by omega)], by rw [g 311 23 (by decide) (by decide) (by decide)]; exact p10, (g 311 35 (by decide) (by decide) (by decide)).trans p11, (g 311 34 (by decide) (by decide) (by decide)).trans p12, (g 311 24 (by decide) (by decide) (by decide)).trans p13, KC_eq p14 (g 313 13 (by decide) (by decide) (by decide)) (fun j => g 330 j (by omega) (by omega) (by omega)) (fun f h1 h2 => if y : f = 18 then Or.inl ⟨y, rfl⟩ else Or.inr (ef f y)) p14.2.2.2.1 (Or.inl rfl) (TX_eq p14.2.2.2.2.2 (fun f hf => ef f (by omega)))⟩
        · have t := p6.2.2.1
          unfold TOK at t ⊢
          rw [ef 0 (by decide), ef 1 (by decide), ef 2 (by decide), ef 3 (by decide), ef 5 (by decide), ef 6 (by decide), ef 10 (by decide), ef 11 (by decide), ef 12 (by decide), ef 13 (by decide), ef 14 (by decide)]
          exact t
        · by_cases z : f = 18
          · rw [z, e18 i]
            unfold rng
            split
            · exact I32_of (by have := bI_01 ((List.range (k + 1)).any (fun x => ld (st h3 313 12 ((k + 1 : Nat) : Int)) 328 ((x : Int) + 12) == i)); omega)
            · exact I32_of (by decide)
          · rw [ef f z]; exact p6.2.2.2.1 f i
        · have := p6.2.2.2.2.1 x x0 x1
          rw [shf_in _ (by decide), shf_in _ (by decide)] at this ⊢
          rw [g 329 _ (by omega) (by omega) (by omega), g 330 _ (by omega) (by omega) (by omega)]; exact this
        · rw [shf_in _ (by decide), show (5 : Int) + hfA 313 = 12 by decide, ld_st_eq]; omega
    · have n2 : nck tp n pl 0 99 = 2 := by unfold nck; rw [if_pos ht, if_pos (by omega)]
      have n3 := no (by rw [n2]; decide)
      rw [n2] at n3
      have wf := flt_w w1 2 pl
      rw [if_pos (Or.inr q)]
      refine ⟨flt h1 2 pl, ?_, FrX_tr fx (flt_F w1 2 pl), by decide, flt_30 _ _ _, flt_31 _ _ _⟩
      rw [e163_31, if_pos (F_a311 w1), Cl_eq _ n3, e163_39, if_pos (F_a311 wf), flt_30, if_neg (by decide)]
theorem rk_163 (p : PR h tp n pl T tw 0 kn op ln) (h18 : ∀ i, T 18 i = 0) (d : Nat) : ∃ h', C (d + 7) 163 [(2, 311)] h = some ((9, 0), h') ∧ FrX h h' ∧ LO tp n op ln h' (hiR tp n T tw kn pl) := by
  have w := p.1.1
  obtain ⟨⟨-, c2, c3, c4, c5, c6⟩, p2, p3, p4, p5, p6, p7, p8, p9, p10, p11, p12, p13, p14⟩ := id p
  obtain ⟨b0, b1, b2, b3, b4⟩ := bt_or1 p10
  have wA : WF (st h 311 23 (or32 (ld h 311 23) 1)) := wf_st w (npt_J (by decide +kernel))
  have e0 : C (d + 7) 163 [(2, 311)] h = V (d + 7) 163 12 [(2, 311), (0, 0), (9, 0)] [] (st h 311 23 (or32 (ld h 311 23) 1)) := by
    rw [ce_163, e163_0, if_pos (F_a311 w), if_pos (W_a311 w), e163_10]
  have g : ∀ j, j ≠ 23 → ld (st h 311 23 (or32 (ld h 311 23) 1)) 311 j = ld h 311 j := fun j hj => ld_st_ne (Or.inr hj)
  have go : ∀ a j, a ≠ 311 → ld (st h 311 23 (or32 (ld h 311 23) 1)) a j = ld h a j := fun a j ha => ld_st_ne (Or.inl ha)
  have e23 : ld (st h 311 23 (or32 (ld h 311 23) 1)) 311 23 = or32 (ld h 311 23) 1 := ld_st_eq _ _ _ _
  have fA : FrX h (st h 311 23 (or32 (ld h 311 23) 1)) := ⟨wA, rfl, fun a j e1 _ => ld_st_ne (by omega)⟩
  rw [e0]
  generalize st h 311 23 (or32 (ld h 311 23) 1) = hA at *
  have pA : PR hA tp n pl T tw 1 kn op ln := by
    refine ⟨⟨wA, fun j j0 j1 => by rw [go 312 j (by decide)]; exact c2 j j0 j1, (g 25 (by decide)).trans c3, c4, (g 26 (by decide)).trans c5, c6⟩, (g 27 (by decide)).trans p2, by rw [g 28 (by decide), g 29 (by decide)]; exact p3, (g 30 (by decide)).trans p4, (g 31 (by decide)).trans p5, RT_eq p6 (shf_wf wA) (fun x j u v => by rw [shf_in _ ⟨u, v⟩, shf_in _ ⟨u, v⟩, go x _ (by omega)]), (go 313 11 (by decide)).trans p7, by rw [e23]; exact b1, fun k hk => ?_, by rw [e23]; exact b0, (g 35 (by decide)).trans p11, (g 34 (by decide)).trans p12, (g 24 (by decide)).trans p13, KC_eq p14 (go 313 13 (by decide)) (fun j => go 330 j (by decide)) (fun _ _ _ => Or.inr rfl) p14.2.2.2.1 (Or.inr rfl) p14.2.2.2.2.2⟩
    rw [e23, ← p9 k hk]
    have h3 : k = 0 ∨ k = 1 ∨ k = 2 := by omega
    rcases h3 with rfl | rfl | rfl
    · exact b2
    · exact b3
    · exact b4
  unfold hiR
  by_cases q : tkn tp n pl = -4
  · rw [if_neg (fun u => u q)]
    obtain ⟨h', a', f', l'⟩ := ha_lp pA d 12 0 T pl hA rfl pA.pp q ⟨fun _ _ => rfl, fun i => by rw [h18 i]; unfold rng; split <;> rfl⟩ rfl (fun _ _ _ _ => rfl)
    exact ⟨h', a', FrX_tr fA f', l'⟩
  · obtain ⟨ok, no⟩ := rk_149 pA.pp (lo := 0) (hi := 99) (by decide) (by decide) d
    have n1 : nck tp n pl 0 99 = 1 := by unfold nck; rw [if_neg q]
    have n3 := no (by rw [n1]; decide)
    rw [n1] at n3
    have wf := flt_w wA 1 pl
    rw [if_pos q]
    refine ⟨flt hA 1 pl, ?_, FrX_tr fA (flt_F wA 1 pl), by decide, flt_30 _ _ _, flt_31 _ _ _⟩
    rw [e163_12, if_pos (F_a311 wA), if_neg (fun u => q ((so_2 pA.pp.2.2.1).mp u)), e163_31, if_pos (F_a311 wA), Cl_eq _ n3, e163_39, if_pos (F_a311 wf), flt_30, if_neg (by decide)]
end HA
