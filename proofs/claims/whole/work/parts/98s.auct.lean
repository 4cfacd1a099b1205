/-! layer 2: the plain program: an auction is held -/
section AU2
variable {h h' : Hp} {z : Zt} {n : Int} {T S : Wd}
/-- the auction's own cells -/
def FrU (h h' : Hp) : Prop := WF h' ∧ h'.2 = h.2 ∧ ∀ a j : Int, a ≠ 348 → a ≠ 349 → ¬ (a = 311 ∧ (j = 57 ∨ j = 61 ∨ j = 62 ∨ j = 63)) → ld h' a j = ld h a j
theorem FrU_rf (w : WF h) : FrU h h := ⟨w, rfl, fun _ _ _ _ _ => rfl⟩
theorem FrU_tr {h1 h2 : Hp} (f : FrU h h1) (g : FrU h1 h2) : FrU h h2 := ⟨g.1, g.2.1.trans f.2.1, fun a j e1 e2 e3 => (g.2.2 a j e1 e2 e3).trans (f.2.2 a j e1 e2 e3)⟩
theorem FrU_W (f : FrW h h') : FrU h h' := ⟨f.1, f.2.1, fun a j e1 e2 e3 => f.2.2 a j e1 e2 (by omega)⟩
theorem FrU_st {h1 : Hp} (f : FrU h h1) {j : Int} (hj : j = 61 ∨ j = 62 ∨ j = 63) (v : Int) : FrU h (st h1 311 j v) := ⟨wf_st f.1 (by rcases hj with rfl | rfl | rfl <;> exact n311 _ (by decide +kernel)), f.2.1, fun a i e1 e2 e3 => (ld_st_ne (by omega)).trans (f.2.2 a i e1 e2 e3)⟩
theorem RK_U {a : Int} (r : RK h a T S) (f : FrU h h') : RK h' a T S := RK_eq r f.1 (fun x j u v => f.2.2 x j (by omega) (by omega) (by omega))
theorem RR_U (c : RR n h z) (f : FrU h h') : RR n h' z := RR_keep c f.1 (fun x j e => f.2.2 x j (by unfold rz at e; omega) (by unfold rz at e; omega) (by unfold rz at e; omega))
theorem FrM_U (f : FrU h h') : FrM h h' := ⟨f.2.1, fun x j e => f.2.2 x j (by omega) (by omega) (by omega)⟩
theorem cnt_loop (r : RK h 0 T S) (lw : LWF T) (h0 : ∀ s, 0 ≤ s → s < 5 → 0 ≤ S 6 s) {p q : Int} (hp : 0 ≤ p ∧ p < T 2 0) (hq : 1 ≤ q) (d : Nat) : ∀ (m : Nat) (k c : Int) (h1 : Hp), FrW h h1 → ld h 311 63 = q → 0 ≤ k → k + m = T 1 0 → 0 ≤ c → c ≤ k → ∃ h', V (d + 7) 215 26 [(2, 311), (0, p), (0, c), (0, k)] [] h1 = V (d + 7) 215 63 [(2, 311), (0, p), (0, cnf (fun s => !decide (sBid T S p s < q)) m k c), (9, 0)] [] h' ∧ FrW h h' := by
  have t1 := r.K.2.1
  intro m
  induction m with
  | zero =>
    intro k c h1 f e63 k0 hk c0 ck
    have r1 := RK_W r f
    have w1 := r1.w
    refine ⟨h1, ?_, f⟩
    rw [e215_26, if_pos (F_a311 w1), P_311_3 w1, if_pos (F_a313 w1), L_a313 w1, if_pos (by decide), rt1 r1.1, if_neg (by omega)]
    rfl
  | succ m ih =>
    intro k c h1 f e63 k0 hk c0 ck
    have r1 := RK_W r f
    have w1 := r1.w
    have g63 : ld h1 311 63 = q := (f.2.2 311 63 (by decide) (by decide) (by decide)).trans e63
    obtain ⟨h2, a2, f2⟩ := rk_214 r1 lw h0 hp (s := k) (q := q) ⟨k0, by omega⟩ hq d
    obtain ⟨h', aa, ff⟩ := ih (k + 1) (if (!decide (sBid T S p k < q)) = true then c + 1 else c) h2 (FrW_tr f f2) e63 (by omega) (by omega) (by split <;> omega) (by split <;> omega)
    refine ⟨h', ?_, ff⟩
    rw [e215_26, if_pos (F_a311 w1), P_311_3 w1, if_pos (F_a313 w1), L_a313 w1, if_pos (by decide), rt1 r1.1, if_pos (by omega), e215_36, if_pos (F_a311 w1), if_pos (F_a311 w1), g63, Cl_eq _ a2]
    show _ = V (d + 7) 215 63 [(2, 311), (0, p), (0, cnf (fun s => !decide (sBid T S p s < q)) m (k + 1) (if (!decide (sBid T S p k < q)) = true then c + 1 else c)), (9, 0)] [] h'
    rw [← aa]
    have wk1 : w32 (k + 1) = k + 1 := by unfold w32; omega
    cases !decide (sBid T S p k < q) with
    | true => rw [if_neg (by decide), e215_55, wk1, if_pos rfl, show w32 (c + 1) = c + 1 by unfold w32; omega]
    | false => rw [if_pos bI_f, e215_54, e215_55, wk1, if_neg (by decide), show w32 (c + 0) = c by unfold w32; omega]
theorem nBd_c (hT : TOK T) {p q : Int} (hq : 1 ≤ q) : cnf (fun s => !decide (sBid T S p s < q)) (T 1 0).toNat 0 0 = nBd (sBid T S p) q ∧ ∀ c b, (bdn (sBid T S p) q (T 1 0).toNat (c, b)).2 = (bdn (sBid T S p) q 5 (c, b)).2 := by
  have t1 := hT.2.1
  have hz : ∀ i : Int, ((T 1 0).toNat : Int) ≤ i → i < 5 → sBid T S p i < q := fun i i0 i1 => by
    unfold sBid
    rw [if_neg (fun u => by have := qSit_iff.mp u.1; omega)]
    omega
  have e := fun A => bdn_5 (sBid T S p) q (N := (T 1 0).toNat) (by omega) hz A
  refine ⟨?_, fun c b => by rw [e]⟩
  unfold nBd
  rw [e, bdn_1]
theorem round_loop (r : RK h 0 T S) (lw : LWF T) (h0 : ∀ s, 0 ≤ s → s < 5 → 0 ≤ S 6 s) {p : Int} (hp : 0 ≤ p ∧ p < T 2 0) (d : Nat) : ∀ (m : Nat) (q : Int) (h1 : Hp), FrU h h1 → ld h1 311 63 = q → 1 ≤ q → q + m = 1000 → nBd (sBid T S p) 1000 = 0 → ∃ h', V (d + 7) 215 7 [(2, 311), (0, p), (0, nBd (sBid T S p) q), (9, 0)] [] h1 = V (d + 7) 215 66 [(2, 311), (0, p), (0, nBd (sBid T S p) (rnd (sBid T S p) m q)), (9, 0)] [] h' ∧ FrU h h' ∧ ld h' 311 63 = rnd (sBid T S p) m q ∧ ¬ 1 < nBd (sBid T S p) (rnd (sBid T S p) m q) ∧ q ≤ rnd (sBid T S p) m q ∧ rnd (sBid T S p) m q ≤ 1000 ∧ (q < rnd (sBid T S p) m q → 1 < nBd (sBid T S p) (rnd (sBid T S p) m q - 1)) := by
  intro m
  induction m with
  | zero =>
    intro q h1 f e63 hq hm hb
    have w1 := f.1
    have e : q = 1000 := by omega
    refine ⟨h1, ?_, f, e63, ?_, Int.le_refl _, by show q ≤ 1000; omega, fun u => by have u : q < q := u; omega⟩
    · rw [e, hb, e215_7, if_neg (by decide)]
      show _ = V (d + 7) 215 66 [(2, 311), (0, p), (0, nBd (sBid T S p) 1000), (9, 0)] [] h1
      rw [hb]
    · show ¬ 1 < nBd (sBid T S p) q
      rw [e, hb]; decide
  | succ m ih =>
    intro q h1 f e63 hq hm hb
    have r1 := RK_U r f
    have w1 := r1.w
    have er : rnd (sBid T S p) (m + 1) q = if 1 < nBd (sBid T S p) q then rnd (sBid T S p) m (q + 1) else q := rfl
    rw [er]
    by_cases y : 1 < nBd (sBid T S p) q
    · rw [if_pos y]
      have f2 := FrU_st f (j := 63) (by decide) (q + 1)
      have r2 := RK_U r f2
      have g2 : ld (st h1 311 63 (q + 1)) 311 63 = q + 1 := ld_st_eq _ _ _ _
      have t1 := r.K.2.1
      obtain ⟨h3, a3, f3⟩ := cnt_loop (q := q + 1) r2 lw h0 hp (by omega) d (T 1 0).toNat 0 0 _ (FrW_rf r2.w) g2 (by decide) (by omega) (by decide) (by decide)
      rw [(nBd_c r.K (by omega : 1 ≤ q + 1)).1] at a3
      have g3 : ld h3 311 63 = q + 1 := (f3.2.2 311 63 (by decide) (by decide) (by decide)).trans g2
      obtain ⟨h', aa, ff, e1, e2, e3, e4, e5⟩ := ih (q + 1) h3 (FrU_tr f2 (FrU_W f3)) g3 (by omega) (by omega) hb
      refine ⟨h', ?_, ff, e1, e2, by omega, e4, fun u => ?_⟩
      · rw [e215_7, if_pos y, if_pos (F_a311 w1), if_pos (W_a311 w1), e63, show w32 (q + 1) = q + 1 by unfold w32; omega, e215_22, a3, e215_63, aa]
      · by_cases y2 : q + 1 < rnd (sBid T S p) m (q + 1)
        · exact e5 y2
        · rw [show rnd (sBid T S p) m (q + 1) - 1 = q by omega]; exact y
    · rw [if_neg y]
      refine ⟨h1, ?_, f, e63, y, Int.le_refl _, by omega, fun u => by omega⟩
      rw [e215_7, if_neg y]
theorem back_loop (r : RK h 0 T S) (lw : LWF T) (h0 : ∀ s, 0 ≤ s → s < 5 → 0 ≤ S 6 s) {p q : Int} (hp : 0 ≤ p ∧ p < T 2 0) (d : Nat) : ∀ (m : Nat) (b : Int) (h1 : Hp), FrU h h1 → ld h1 311 62 = q → ld h1 311 61 = (if b = -2 then -1 else b) → (b = -2 ∨ 0 ≤ b) → (m : Int) ≤ T 1 0 → ∃ h', V (d + 7) 215 102 [(2, 311), (0, p), (9, 0), (0, (m : Int) - 1)] [] h1 = V (d + 7) 215 137 [(2, 311), (9, 0), (9, 0), (9, 0)] [] h' ∧ FrU h h' ∧ ld h' 311 62 = q ∧ ld h' 311 63 = ld h1 311 63 ∧ ld h' 311 61 = (if (if 0 < q then (bdn (sBid T S p) q m (0, b)).2 else b) = -2 then -1 else (if 0 < q then (bdn (sBid T S p) q m (0, b)).2 else b)) := by
  intro m
  induction m with
  | zero =>
    intro b h1 f e62 e61 hb hm
    refine ⟨h1, ?_, f, e62, rfl, ?_⟩
    · rw [e215_102, if_pos (by decide)]
    · show ld h1 311 61 = (if (if 0 < q then b else b) = -2 then -1 else (if 0 < q then b else b))
      rw [show (if 0 < q then b else b) = b by split <;> rfl]; exact e61
  | succ m ih =>
    intro b h1 f e62 e61 hb hm
    have r1 := RK_U r f
    have w1 := r1.w
    have t1 := r.K.2.1
    have hm1 : (((m + 1 : Nat) : Int)) - 1 = (m : Int) := by omega
    have wk1 : w32 ((m : Int) + -1) = (m : Int) - 1 := by unfold w32; omega
    rw [hm1, e215_102, if_neg (by omega), if_pos (F_a311 w1), e62]
    by_cases y : 0 < q
    · obtain ⟨h2, a2, f2⟩ := rk_214 r1 lw h0 hp (s := (m : Int)) (q := q) ⟨by omega, by omega⟩ (by omega) d
      have w2 := f2.1
      have fu2 := FrU_tr f (FrU_W f2)
      have g62 : ld h2 311 62 = q := (f2.2.2 311 62 (by decide) (by decide) (by decide)).trans e62
      have g61 : ld h2 311 61 = (if b = -2 then -1 else b) := (f2.2.2 311 61 (by decide) (by decide) (by decide)).trans e61
      have g63 : ld h2 311 63 = ld h1 311 63 := f2.2.2 311 63 (by decide) (by decide) (by decide)
      rw [if_pos y, e215_113, if_pos (F_a311 w1), if_pos (F_a311 w1), e62, Cl_eq _ a2]
      have eb : (bdn (sBid T S p) q (m + 1) (0, b)).2 = (bdn (sBid T S p) q m (0, if sBid T S p (m : Int) < q then b else (m : Int))).2 := by
        show (bdn (sBid T S p) q m (if sBid T S p (m : Int) < q then (0, b) else (0 + 1, (m : Int)))).2 = _
        by_cases u : sBid T S p (m : Int) < q
        · rw [if_pos u, if_pos u]
        · rw [if_neg u, if_neg u]; exact bdn_2 _ _ _ _ _ _
      by_cases u : sBid T S p (m : Int) < q
      · obtain ⟨h', aa, ff, x1, x2, x3⟩ := ih b h2 fu2 g62 g61 hb (by omega)
        refine ⟨h', ?_, ff, x1, x2.trans g63, ?_⟩
        · rw [decide_eq_true u, Bool.not_true, if_pos bI_f, e215_131, wk1, aa]
        · rw [x3, eb, if_pos u]
      · have f3 := FrU_st fu2 (j := 61) (by decide) (m : Int)
        have k61 : ld (st h2 311 61 (m : Int)) 311 61 = (if (m : Int) = -2 then -1 else (m : Int)) := by rw [ld_st_eq, if_neg (by omega)]
        obtain ⟨h', aa, ff, x1, x2, x3⟩ := ih (m : Int) _ f3 ((ld_st_ne (Or.inr (by decide))).trans g62) k61 (Or.inr (by omega)) (by omega)
        refine ⟨h', ?_, ff, x1, x2.trans ((ld_st_ne (Or.inr (by decide))).trans g63), ?_⟩
        · rw [decide_eq_false u, Bool.not_false, if_neg (by decide), e215_126, if_pos (W_a311 w2), e215_131, wk1, aa]
        · rw [x3, eb, if_neg u]; simp only [if_pos y]
    · obtain ⟨h', aa, ff, x1, x2, x3⟩ := ih b h1 f e62 e61 hb (by omega)
      refine ⟨h', ?_, ff, x1, x2, ?_⟩
      · rw [if_neg y, e215_131, wk1, aa]
      · rw [x3, if_neg y, if_neg y]
theorem rk_215 (r : RK h 0 T S) (lw : LWF T) (h0 : ∀ s, 0 ≤ s → s < 5 → 0 ≤ S 6 s) {p : Int} (hp : 0 ≤ p ∧ p < T 2 0) (d : Nat) : ∃ h', C (d + 7) 215 [(2, 311), (0, p)] h = some ((9, 0), h') ∧ FrU h h' ∧ ld h' 311 61 = (if (sAuc T S p 0).1 = -2 then -1 else (sAuc T S p 0).1) ∧ ld h' 311 62 = (sAuc T S p 0).2.1 ∧ ld h' 311 63 = (sAuc T S p 0).2.2 ∧ ((sAuc T S p 0).1 = -2 ∨ (((0 ≤ (sAuc T S p 0).1 ∧ (sAuc T S p 0).1 < T 1 0) ∧ ¬ S 9 p = (sAuc T S p 0).1) ∧ 1 ≤ (sAuc T S p 0).2.1 ∧ (sAuc T S p 0).2.1 ≤ S 6 (sAuc T S p 0).1)) := by
  have w := r.w
  have t1 := r.K.2.1
  have lim : ∀ i, sBid T S p i ≤ 999 := fun i => by
    unfold sBid
    split
    · rename_i u
      have := qSit_iff.mp u.1
      exact (sLim_b r.2.2.2 r.K hp (h0 i (by omega) (by omega))).2.1
    · decide
  have hb : nBd (sBid T S p) 1000 = 0 := by
    have := bdn_5 (sBid T S p) 1000 (N := 0) (by decide) (fun i _ _ => by have := lim i; omega) (0, -2)
    unfold nBd; rw [this]; rfl
  have f1 := FrU_st (FrU_rf w) (j := 63) (by decide) 0
  have r1 := RK_U r f1
  have w1 := r1.w
  have f2 := FrU_st f1 (j := 63) (by decide) 1
  have r2 := RK_U r f2
  have g2 : ld (st (st h 311 63 0) 311 63 1) 311 63 = 1 := ld_st_eq _ _ _ _
  obtain ⟨h3, a3, f3⟩ := cnt_loop (q := 1) r2 lw h0 hp (by decide) d (T 1 0).toNat 0 0 _ (FrW_rf r2.w) g2 (by decide) (by omega) (by decide) (by decide)
  rw [(nBd_c r.K (by decide : (1 : Int) ≤ 1)).1] at a3
  have fu3 := FrU_tr f2 (FrU_W f3)
  have g3 : ld h3 311 63 = 1 := (f3.2.2 311 63 (by decide) (by decide) (by decide)).trans g2
  obtain ⟨h4, a4, f4, e1, e2, e3, e4, e5⟩ := round_loop r lw h0 hp d 999 1 h3 fu3 g3 (by decide) (by decide) hb
  have hauc : sAuc T S p 0 = (if nBd (sBid T S p) (rnd (sBid T S p) 1000 1) = 1 then (wBd (sBid T S p) (rnd (sBid T S p) 1000 1), rnd (sBid T S p) 1000 1, rnd (sBid T S p) 1000 1) else (if rnd (sBid T S p) 1000 1 = 1 then -2 else wBd (sBid T S p) (rnd (sBid T S p) 1000 1 - 1), rnd (sBid T S p) 1000 1 - 1, rnd (sBid T S p) 1000 1)) ∧ rnd (sBid T S p) 1000 1 = rnd (sBid T S p) 999 1 := by
    have ext : ∀ (m : Nat) (q : Int), q + m = 1000 → rnd (sBid T S p) (m + 1) q = rnd (sBid T S p) m q := by
      intro m
      induction m with
      | zero =>
        intro q hq
        show (if 1 < nBd (sBid T S p) q then rnd (sBid T S p) 0 (q + 1) else q) = q
        rw [show q = 1000 by omega, hb, if_neg (by decide)]
      | succ m ih =>
        intro q hq
        show (if 1 < nBd (sBid T S p) q then rnd (sBid T S p) (m + 1) (q + 1) else q) = (if 1 < nBd (sBid T S p) q then rnd (sBid T S p) m (q + 1) else q)
        rw [ih (q + 1) (by omega)]
    have er := ext 999 1 (by decide)
    refine ⟨?_, er⟩
    have hb2 : nBd (sBid T S p) (1 + ((1000 : Nat) : Int)) = 0 := by
      have := bdn_5 (sBid T S p) 1001 (N := 0) (by decide) (fun i _ _ => by have := lim i; omega) (0, -2)
      show (bdn (sBid T S p) 1001 5 (0, -2)).1 = 0
      rw [this]; rfl
    exact auc_r (sBid T S p) 1000 1 (-2) 0 (by decide) hb2 (by rw [er]; exact e2)
  rw [hauc.2] at hauc
  generalize hRd : rnd (sBid T S p) 999 1 = R at *
  have f5 := FrU_st f4 (j := 61) (by decide) (-1)
  have w4 := f4.1
  have w5' := f5.1
  have g563 : ld (st h4 311 61 (-1)) 311 63 = R := (ld_st_ne (Or.inr (by decide))).trans e1
  have n0 : 0 ≤ nBd (sBid T S p) R := bdn_nn _ _ 5 (0, -2)
  -- what it is sold for
  generalize hq : (if nBd (sBid T S p) R = 1 then R else R - 1) = q at *
  have f6 := FrU_st f5 (j := 62) (by decide) q
  have r6 := RK_U r f6
  have w6 := r6.w
  have e66 : V (d + 7) 215 66 [(2, 311), (0, p), (0, nBd (sBid T S p) R), (9, 0)] [] h4 = V (d + 7) 215 102 [(2, 311), (0, p), (9, 0), (0, ((T 1 0).toNat : Int) - 1)] [] (st (st h4 311 61 (-1)) 311 62 q) := by
    have e90 : V (d + 7) 215 90 [(2, 311), (0, p), (9, 0), (9, 0)] [(0, q), (2, 311)] (st h4 311 61 (-1)) = V (d + 7) 215 102 [(2, 311), (0, p), (9, 0), (0, ((T 1 0).toNat : Int) - 1)] [] (st (st h4 311 61 (-1)) 311 62 q) := by
      rw [e215_90, if_pos (W_a311 w5'), if_pos (F_a311 w6), P_311_3 w6, if_pos (F_a313 w6), L_a313 w6, if_pos (by decide), rt1 r6.1, show w32 (T 1 0 - 1) = ((T 1 0).toNat : Int) - 1 by unfold w32; omega]
    rw [e215_66, if_pos (W_a311 w4)]
    by_cases y : nBd (sBid T S p) R = 1
    · rw [if_pos y, if_pos (F_a311 w5'), g563, ← e90, ← hq, if_pos y]
    · rw [if_neg y, e215_84, if_pos (F_a311 w5'), g563, show w32 (R - 1) = R - 1 by unfold w32; omega, ← e90, ← hq, if_neg y]
  obtain ⟨h7, a7, f7, x1, x2, x3⟩ := back_loop r lw h0 hp (q := q) d (T 1 0).toNat (-2) (st (st h4 311 61 (-1)) 311 62 q) f6 (ld_st_eq _ _ _ _) ((ld_st_ne (Or.inr (by decide))).trans ((ld_st_eq _ _ _ _).trans (by rw [if_pos rfl]))) (Or.inl rfl) (by omega)
  have g763 : ld h7 311 63 = R := x2.trans ((ld_st_ne (Or.inr (by decide))).trans g563)
  have e0 : C (d + 7) 215 [(2, 311), (0, p)] h = V (d + 7) 215 137 [(2, 311), (9, 0), (9, 0), (9, 0)] [] h7 := by
    rw [ce_215, e215_0, if_pos (W_a311 w), e215_7, if_pos (by decide), if_pos (F_a311 w1), if_pos (W_a311 w1), ld_st_eq, show w32 (0 + 1) = 1 from rfl, e215_22, a3, e215_63, a4, e66, a7]
  have w7 := f7.1
  have wq : 0 < q → (bdn (sBid T S p) q (T 1 0).toNat (0, -2)).2 = wBd (sBid T S p) q := fun y => (nBd_c r.K (by omega : 1 ≤ q)).2 0 (-2)
  -- the class's three
  have hA : sAuc T S p 0 = (if 0 < q then wBd (sBid T S p) q else -2, q, R) := by
    rw [hauc.1, ← hq]
    by_cases y : nBd (sBid T S p) R = 1
    · rw [if_pos y, if_pos y, if_pos (by omega)]
    · rw [if_neg y, if_neg y]
      by_cases y2 : R = 1
      · rw [if_pos y2, if_neg (by omega)]
      · rw [if_neg y2, if_pos (by omega)]
  have hpos : 0 < q → 1 ≤ nBd (sBid T S p) q := fun y => by
    by_cases y1 : nBd (sBid T S p) R = 1
    · rw [if_pos y1] at hq; rw [← hq, y1]; decide
    · rw [if_neg y1] at hq
      rw [← hq]
      have := e5 (by omega)
      omega
  have hwin : 0 < q → (0 ≤ wBd (sBid T S p) q ∧ wBd (sBid T S p) q < 5 ∧ ¬ sBid T S p (wBd (sBid T S p) q) < q) := fun y => by
    rcases bdn_w (sBid T S p) q 5 0 (-2) with ⟨u1, u2⟩ | ⟨u1, u2, u3, u4⟩
    · have := hpos y; unfold nBd at this; omega
    · exact ⟨u1, u2, u3⟩
  have last : (sAuc T S p 0).1 = -2 ∨ (((0 ≤ (sAuc T S p 0).1 ∧ (sAuc T S p 0).1 < T 1 0) ∧ ¬ S 9 p = (sAuc T S p 0).1) ∧ 1 ≤ (sAuc T S p 0).2.1 ∧ (sAuc T S p 0).2.1 ≤ S 6 (sAuc T S p 0).1) := by
    rw [hA]
    by_cases y : 0 < q
    · right
      obtain ⟨u1, u2, u3⟩ := hwin y
      rw [if_pos y]
      generalize wBd (sBid T S p) q = i at *
      unfold sBid at u3
      by_cases v : qSit T i = true ∧ qLiv S i = true ∧ ¬ S 9 p = i
      · rw [if_pos v] at u3
        have hi := qSit_iff.mp v.1
        have := sLim_b r.2.2.2 r.K hp (h0 i (by omega) (by omega))
        exact ⟨⟨hi, v.2.2⟩, by show 1 ≤ q; omega, by show q ≤ S 6 i; omega⟩
      · rw [if_neg v] at u3; omega
    · left; rw [if_neg y]
  rw [hA] at last ⊢
  by_cases y : 0 < q
  · obtain ⟨u1, u2, u3⟩ := hwin y
    rw [if_pos y, wq y, if_neg (by omega)] at x3
    refine ⟨h7, ?_, f7, ?_, x1, g763, last⟩
    · rw [e0, e215_137, if_pos (F_a311 w7), x3, if_neg (by omega), e215_150]
    · rw [if_pos y, x3, if_neg (by omega)]
  · rw [if_neg y, if_pos rfl] at x3
    have hq0 : q = 0 := by
      rw [← hq] at y ⊢
      by_cases y1 : nBd (sBid T S p) R = 1
      · rw [if_pos y1] at y ⊢; omega
      · rw [if_neg y1] at y ⊢; omega
    have f8 := FrU_st f7 (j := 62) (by decide) 0
    refine ⟨st h7 311 62 0, ?_, f8, ?_, ?_, ?_, last⟩
    · rw [e0, e215_137, if_pos (F_a311 w7), x3, if_pos rfl, if_pos (W_a311 w7), e215_150]
    · rw [if_neg y, ld_st_ne (Or.inr (by decide)), x3, if_pos rfl]
    · rw [ld_st_eq, hq0]
    · exact (ld_st_ne (Or.inr (by decide))).trans g763
end AU2
