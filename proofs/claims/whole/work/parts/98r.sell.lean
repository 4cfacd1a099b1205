/-! layer 2: the plain program: auctions, sales -/
section SE
variable {h h' : Hp} {z : Zt} {n : Int} {T S : Wd}
theorem sLim_b (hI : ∀ f i, I32 (S f i)) (hT : TOK T) {p s : Int} (hp : 0 ≤ p ∧ p < T 2 0) (h6 : 0 ≤ S 6 s) : 0 ≤ sLim T S p s ∧ sLim T S p s ≤ 999 ∧ sLim T S p s ≤ S 6 s ∧ sLim T S p s = imin (match lwV T S 2 p s with | none => tBase T p | some v => imax 0 (imin 999 v)) (S 6 s) := by
  obtain ⟨p1, p2, p3, -⟩ := pieT hT hp
  have b := (hT.2.2.2.2.2.2 (T 13 p) p3.1 p3.2).1
  have key : ∀ v, 0 ≤ v → v ≤ 999 → 0 ≤ w32 (imin v (S 6 s)) ∧ w32 (imin v (S 6 s)) ≤ 999 ∧ w32 (imin v (S 6 s)) ≤ S 6 s ∧ w32 (imin v (S 6 s)) = imin v (S 6 s) := fun v v0 v1 => by
    have hm : 0 ≤ imin v (S 6 s) ∧ imin v (S 6 s) ≤ 999 ∧ imin v (S 6 s) ≤ S 6 s := by unfold imin; split <;> omega
    have hw : w32 (imin v (S 6 s)) = imin v (S 6 s) := by unfold w32; omega
    rw [hw]
    exact ⟨hm.1, hm.2.1, hm.2.2, rfl⟩
  unfold sLim
  cases lwV T S 2 p s with
  | none => exact key (tBase T p) (by unfold tBase; omega) (by unfold tBase; omega)
  | some v =>
    have b2 : 0 ≤ imax 0 (imin 999 v) ∧ imax 0 (imin 999 v) ≤ 999 := by unfold imax imin; split <;> split <;> omega
    exact key (imax 0 (imin 999 v)) b2.1 b2.2
theorem rk_213 (r : RK h 0 T S) (lw : LWF T) {p s : Int} (hp : 0 ≤ p ∧ p < T 2 0) (hs : 0 ≤ s ∧ s < T 1 0) (h6 : 0 ≤ S 6 s) (d : Nat) : ∃ h', C (d + 5) 213 [(2, 311), (0, p), (0, s)] h = some ((0, sLim T S p s), h') ∧ FrW h h' := by
  have w := r.w
  obtain ⟨p1, p2, p3, p4, p5, p6⟩ := pieT r.K hp
  have t1 := r.K.2.1
  have lb := sLim_b r.2.2.2 r.K hp h6
  have e6 := rs6 r hs
  rw [show (5 : Int) * 0 + s = s by omega] at e6
  have e192 : C (d + 4) 192 [(2, 311), (0, 2)] h = some ((0, bI (decide (0 < T (19 + 2) 0))), h) := rk_192 r.1 (k := 2) (by decide) (d + 4)
  have e46 : ∀ h' v, RK h' 0 T S → V (d + 5) 213 46 [(2, 311), (9, 0), (0, s), (9, 0)] [(0, v)] h' = some ((0, imin v (S 6 s)), h') := fun h' v r => by
    have w := r.w
    have e6 := rs6 r hs
    rw [show (5 : Int) * 0 + s = s by omega] at e6
    rw [e213_46, if_pos (F_a311 w), P_311_41 w, if_pos (F_a338 w), L_a338 w, if_pos (by omega), e6, Cl_eq _ (min245 (d + 4) _ _)]
  have e35 : ∀ h', RK h' 0 T S → V (d + 5) 213 35 [(2, 311), (0, p), (0, s), (9, 0)] [] h' = some ((0, imin (tBase T p) (S 6 s)), h') := fun h' r => by
    have w := r.w
    rw [e213_35, if_pos (F_a311 w), if_pos (F_a311 w), P_311_13 w, if_pos (F_a323 w), L_a323 w, if_pos (by omega), P_311_5 w, if_pos (F_a315 w), rt13 r.1 hp, L_a315 w, if_pos (by omega), rt5 r.1 p3, e46 h' _ r]
    rfl
  rw [lb.2.2.2, ce_213, e213_0, if_pos (F_a311 w), Cl_eq _ e192]
  by_cases q : 0 < T (19 + 2) 0
  · obtain ⟨q1, h1, a1, f1, l1⟩ := rk_193 r lw (k := 2) (by decide) q hp hs d
    have a1 : C (d + 4) 193 [(2, 311), (0, 2), (0, 0), (0, p), (0, s)] h = some ((0, q1), h1) := a1
    have r1 := RK_W r f1
    have w1 := r1.w
    rw [decide_eq_true q, if_neg (by decide), if_pos (F_a311 w), Cl_eq _ a1]
    cases hl : lwV T S 2 p s with
    | none =>
      rw [hl] at l1
      have l1 : q1 = 0 := l1
      rw [if_pos l1, e35 h1 r1]
      exact ⟨h1, rfl, f1⟩
    | some v =>
      rw [hl] at l1
      obtain ⟨b1, b2, b3⟩ := l1
      have hw : w32 (imax 0 (imin 999 v)) = imax 0 (imin 999 v) := by
        have : 0 ≤ imax 0 (imin 999 v) ∧ imax 0 (imin 999 v) ≤ 999 := by unfold imax imin; split <;> split <;> omega
        unfold w32; omega
      rw [if_neg (by omega), e213_19, if_pos (F_a311 w1), P_311_56 w1, if_pos (F_a349 w1), L_a349 w1, if_pos (by decide), b2, Cl_eq _ (rk_194 v 0 999 (by decide) (d + 3)), hw, e46 h1 _ r1]
      exact ⟨h1, rfl, f1⟩
  · rw [decide_eq_false q, if_pos bI_f, e35 h r, lwV_0 q]
    exact ⟨h, rfl, FrW_rf w⟩
theorem rk_214 (r : RK h 0 T S) (lw : LWF T) (h0 : ∀ s, 0 ≤ s → s < 5 → 0 ≤ S 6 s) {p s q : Int} (hp : 0 ≤ p ∧ p < T 2 0) (hs : 0 ≤ s ∧ s < T 1 0) (hq : 1 ≤ q) (d : Nat) : ∃ h', C (d + 6) 214 [(2, 311), (0, p), (0, s), (0, q)] h = some ((0, bI (!decide (sBid T S p s < q))), h') ∧ FrW h h' := by
  have w := r.w
  obtain ⟨p1, p2, p3, p4, p5, p6⟩ := pieT r.K hp
  have t1 := r.K.2.1
  have e9 := rs9 r hp
  rw [show (10 : Int) * 0 + p = p by omega] at e9
  have hsit : qSit T s = true := qSit_iff.mpr hs
  have e33 : ∀ h', V (d + 6) 214 33 [(9, 0), (9, 0), (9, 0), (9, 0)] [] h' = some ((0, 0), h') := fun h' => by rw [e214_33, e214_34, if_pos (by decide)]
  unfold sBid
  rw [ce_214, e214_0, if_pos (F_a311 w), Cl_eq _ (rk_183 r s (d + 5))]
  cases hl : qLiv S s with
  | false =>
    rw [if_pos bI_f, e33, if_neg (fun u => by cases u.2.1), decide_eq_true (by omega : (0 : Int) < q)]
    exact ⟨h, rfl, FrW_rf w⟩
  | true =>
    rw [if_neg (by decide), e214_9, if_pos (F_a311 w), P_311_44 w, if_pos (F_a341 w), L_a341 w, if_pos (by omega), e9]
    by_cases y : S 9 p = s
    · rw [if_pos y, e33, if_neg (fun u => u.2.2 y), decide_eq_true (by omega : (0 : Int) < q)]
      exact ⟨h, rfl, FrW_rf w⟩
    · obtain ⟨h1, a1, f1⟩ := rk_213 r lw hp hs (h0 s hs.1 (by omega)) d
      rw [if_neg y, e214_19, if_pos (F_a311 w), Cl_eq _ a1, if_pos (show qSit T s = true ∧ true = true ∧ ¬ S 9 p = s from ⟨hsit, rfl, y⟩)]
      by_cases z1 : sLim T S p s < q
      · rw [if_pos z1, e33, decide_eq_true z1]; exact ⟨h1, rfl, f1⟩
      · rw [if_neg z1, e214_29, e214_34, if_pos (by decide), decide_eq_false z1]; exact ⟨h1, rfl, f1⟩
/-- bidders, counted from below -/
theorem bdn_1 (L : Int → Int) (q : Int) : ∀ (m : Nat) (A : Int × Int), (bdn L q m A).1 = cnf (fun s => !decide (L s < q)) m 0 A.1 := by
  have up : ∀ (m : Nat) (k a : Int), cnf (fun s => !decide (L s < q)) (m + 1) k a = cnf (fun s => !decide (L s < q)) m k (if L (k + m) < q then a else a + 1) := by
    intro m
    induction m with
    | zero =>
      intro k a
      show (if (!decide (L k < q)) = true then a + 1 else a) = (if L (k + ((0 : Nat) : Int)) < q then a else a + 1)
      rw [show k + ((0 : Nat) : Int) = k by omega]
      by_cases y : L k < q
      · rw [if_pos y, decide_eq_true y]; rfl
      · rw [if_neg y, decide_eq_false y]; rfl
    | succ m ih =>
      intro k a
      have e1 : cnf (fun s => !decide (L s < q)) (m + 1 + 1) k a = cnf (fun s => !decide (L s < q)) (m + 1) (k + 1) (if (!decide (L k < q)) = true then a + 1 else a) := rfl
      have e2 : cnf (fun s => !decide (L s < q)) (m + 1) k (if L (k + ((m + 1 : Nat) : Int)) < q then a else a + 1) = cnf (fun s => !decide (L s < q)) m (k + 1) (if (!decide (L k < q)) = true then (if L (k + ((m + 1 : Nat) : Int)) < q then a else a + 1) + 1 else (if L (k + ((m + 1 : Nat) : Int)) < q then a else a + 1)) := rfl
      rw [e1, e2, ih, show k + 1 + (m : Int) = k + ((m + 1 : Nat) : Int) by omega]
      congr 1
      by_cases y : L (k + ((m + 1 : Nat) : Int)) < q
      · simp only [if_pos y]
      · simp only [if_neg y]; split <;> omega
  intro m
  induction m with
  | zero => intro A; rfl
  | succ m ih =>
    intro A
    rw [up m 0 A.1, show (0 : Int) + (m : Int) = (m : Int) by omega]
    show (bdn L q m (if L (m : Int) < q then A else (A.1 + 1, (m : Int)))).1 = _
    rw [ih]
    by_cases y : L (m : Int) < q
    · simp only [if_pos y]
    · simp only [if_neg y]
theorem bdn_2 (L : Int → Int) (q : Int) : ∀ (m : Nat) (c c' b : Int), (bdn L q m (c, b)).2 = (bdn L q m (c', b)).2
  | 0, _, _, _ => rfl
  | m + 1, c, c', b => by
    show (bdn L q m (if L (m : Int) < q then (c, b) else (c + 1, (m : Int)))).2 = (bdn L q m (if L (m : Int) < q then (c', b) else (c' + 1, (m : Int)))).2
    by_cases y : L (m : Int) < q
    · rw [if_pos y, if_pos y]; exact bdn_2 L q m _ _ _
    · rw [if_neg y, if_neg y]; exact bdn_2 L q m _ _ _
/-- who bids is a sitter that bids -/
theorem bdn_w (L : Int → Int) (q : Int) : ∀ (m : Nat) (c b : Int), ((bdn L q m (c, b)).2 = b ∧ (bdn L q m (c, b)).1 = c) ∨ (0 ≤ (bdn L q m (c, b)).2 ∧ (bdn L q m (c, b)).2 < m ∧ ¬ L (bdn L q m (c, b)).2 < q ∧ c < (bdn L q m (c, b)).1)
  | 0, _, _ => Or.inl ⟨rfl, rfl⟩
  | m + 1, c, b => by
    show ((bdn L q m (if L (m : Int) < q then (c, b) else (c + 1, (m : Int)))).2 = b ∧ (bdn L q m (if L (m : Int) < q then (c, b) else (c + 1, (m : Int)))).1 = c) ∨ _
    show _ ∨ (0 ≤ (bdn L q m (if L (m : Int) < q then (c, b) else (c + 1, (m : Int)))).2 ∧ (bdn L q m (if L (m : Int) < q then (c, b) else (c + 1, (m : Int)))).2 < ((m + 1 : Nat) : Int) ∧ ¬ L (bdn L q m (if L (m : Int) < q then (c, b) else (c + 1, (m : Int)))).2 < q ∧ c < (bdn L q m (if L (m : Int) < q then (c, b) else (c + 1, (m : Int)))).1)
    by_cases y : L (m : Int) < q
    · rw [if_pos y]
      rcases bdn_w L q m c b with u | ⟨u1, u2, u3, u4⟩
      · exact Or.inl u
      · exact Or.inr ⟨u1, by omega, u3, u4⟩
    · rw [if_neg y]
      right
      rcases bdn_w L q m (c + 1) (m : Int) with ⟨u1, u2⟩ | ⟨u1, u2, u3, u4⟩
      · rw [u1, u2]; exact ⟨by omega, by omega, y, by omega⟩
      · exact ⟨u1, by omega, u3, by omega⟩
/-- those beyond the last sitter do not bid -/
theorem bdn_5 (L : Int → Int) (q : Int) {N : Nat} (hN : N ≤ 5) (hz : ∀ i : Int, N ≤ i → i < 5 → L i < q) (A : Int × Int) : bdn L q 5 A = bdn L q N A := by
  have key : ∀ m : Nat, N + m ≤ 5 → ∀ A, bdn L q (N + m) A = bdn L q N A := by
    intro m
    induction m with
    | zero => intro _ A; rfl
    | succ m ih =>
      intro hm A
      show bdn L q (N + m) (if L ((N + m : Nat) : Int) < q then A else _) = _
      rw [if_pos (hz _ (by omega) (by omega))]
      exact ih (by omega) A
  have := key (5 - N) (by omega) A
  rw [show N + (5 - N) = 5 by omega] at this
  exact this
def nBd (L : Int → Int) (q : Int) : Int := (bdn L q 5 (0, -2)).1
def wBd (L : Int → Int) (q : Int) : Int := (bdn L q 5 (0, -2)).2
/-- the round that ends it -/
def rnd (L : Int → Int) : Nat → Int → Int
  | 0, q => q
  | m + 1, q => if 1 < nBd L q then rnd L m (q + 1) else q
theorem bdn_nn (L : Int → Int) (q : Int) : ∀ (m : Nat) (A : Int × Int), A.1 ≤ (bdn L q m A).1
  | 0, _ => Int.le_refl _
  | m + 1, A => by
    show A.1 ≤ (bdn L q m (if L (m : Int) < q then A else (A.1 + 1, (m : Int)))).1
    split
    · exact bdn_nn L q m A
    · have := bdn_nn L q m (A.1 + 1, (m : Int)); have : A.1 + 1 ≤ _ := this; omega
theorem auc_r (L : Int → Int) : ∀ (m : Nat) (q w f : Int), 1 ≤ m → nBd L (q + m) = 0 → ¬ 1 < nBd L (rnd L m q) → auc L m q w f = (if nBd L (rnd L m q) = 1 then (wBd L (rnd L m q), rnd L m q, rnd L m q) else (if rnd L m q = q then w else wBd L (rnd L m q - 1), rnd L m q - 1, rnd L m q))
  | 0, _, _, _, hm, _, _ => by omega
  | m + 1, q, w, f, hm, hb, hr => by
    have n0 : 0 ≤ nBd L q := bdn_nn L q 5 (0, -2)
    show (if nBd L q = 0 then (w, q - 1, q) else if nBd L q = 1 then (wBd L q, q, q) else auc L m (q + 1) (wBd L q) q) = _
    have er : rnd L (m + 1) q = if 1 < nBd L q then rnd L m (q + 1) else q := rfl
    by_cases y : 1 < nBd L q
    · rw [if_neg (by omega), if_neg (by omega)]
      rw [er, if_pos y] at hr ⊢
      cases m with
      | zero =>
        show (wBd L q, q, q + 1) = _
        show _ = (if nBd L (q + 1) = 1 then (wBd L (q + 1), q + 1, q + 1) else (if q + 1 = q then w else wBd L (q + 1 - 1), q + 1 - 1, q + 1))
        rw [show q + ((0 + 1 : Nat) : Int) = q + 1 by omega] at hb
        rw [if_neg (by omega), if_neg (by omega), show q + 1 - 1 = q by omega]
      | succ m =>
        rw [auc_r L (m + 1) (q + 1) (wBd L q) q (by omega) (by rw [show q + 1 + ((m + 1 : Nat) : Int) = q + ((m + 1 + 1 : Nat) : Int) by omega]; exact hb) hr]
        have hge : ∀ (m : Nat) (q : Int), q ≤ rnd L m q := by
          intro m
          induction m with
          | zero => intro q; exact Int.le_refl _
          | succ m ih =>
            intro q
            show q ≤ (if 1 < nBd L q then rnd L m (q + 1) else q)
            split
            · have := ih (q + 1); omega
            · exact Int.le_refl _
        have hq := hge (m + 1) (q + 1)
        generalize rnd L (m + 1) (q + 1) = R at *
        by_cases y1 : nBd L R = 1
        · rw [if_pos y1, if_pos y1]
        · rw [if_neg y1, if_neg y1, if_neg (by omega : ¬ R = q)]
          by_cases y2 : R = q + 1
          · rw [if_pos y2, y2, show q + 1 - 1 = q by omega]
          · rw [if_neg y2]
    · rw [er, if_neg y]
      by_cases y0 : nBd L q = 0
      · rw [if_pos y0, if_neg (by omega), if_pos rfl]
      · rw [if_neg y0, if_pos (by omega), if_pos (by omega)]
end SE
