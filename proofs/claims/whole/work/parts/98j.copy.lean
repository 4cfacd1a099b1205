/-! layer 2: the plain program: studios copied -/
section RC
variable {h h' : Hp} {t s : Int} {T S : Wd}
theorem w40 {a : Int} (ha : 0 ≤ a ∧ a < 23) {p : Int} (hp : 0 ≤ p ∧ p < 40) : w32 (w32 (40 * a) + p) = 40 * a + p := by unfold w32; omega
theorem rng_cg {i m u v : Int} (e : 0 ≤ i → i < m → u = v) : rng i m u = rng i m v := by
  unfold rng
  split
  · rename_i z; exact e z.1 z.2
  · rfl
theorem sR_cp {ns np : Int} (e0 : ld h' 333 t = ld h 333 s) (e1 : ld h' 334 t = ld h 334 s) (e2 : ld h' 335 t = ld h 335 s) (e3 : ld h' 336 t = ld h 336 s) (e4 : ld h' 337 t = ld h 337 s) (e5 : ld h' 342 t = ld h 342 s) (e6 : ∀ i, 0 ≤ i → i < ns → ld h' 338 (5 * t + i) = ld h 338 (5 * s + i)) (e7 : ∀ i, 0 ≤ i → i < np → ld h' 339 (10 * t + i) = ld h 339 (10 * s + i)) (e8 : ∀ i, 0 ≤ i → i < np → ld h' 340 (10 * t + i) = ld h 340 (10 * s + i)) (e9 : ∀ i, 0 ≤ i → i < np → ld h' 341 (10 * t + i) = ld h 341 (10 * s + i)) (e10 : ∀ i, 0 ≤ i → i < ld h 342 s → ld h' 343 (40 * t + i) = ld h 343 (40 * s + i)) (e11 : ∀ i, 0 ≤ i → i < ld h 342 s → ld h' 344 (40 * t + i) = ld h 344 (40 * s + i)) : sR h' t ns np = sR h s ns np := by
  funext f i
  have g6 := rng_cg (i := i) (m := ns) (e6 i)
  have g7 := rng_cg (i := i) (m := np) (e7 i)
  have g8 := rng_cg (i := i) (m := np) (e8 i)
  have g9 := rng_cg (i := i) (m := np) (e9 i)
  have g10 := rng_cg (i := i) (m := ld h 342 s) (e10 i)
  have g11 := rng_cg (i := i) (m := ld h 342 s) (e11 i)
  unfold sR
  simp only [e0, e1, e2, e3, e4, e5, g6, g7, g8, g9, g10, g11]
/-- what is copied so far: m cells of a row, b a studio -/
def cpd (h h1 : Hp) (t s x m i : Int) : Prop := ∀ j, 0 ≤ j → j < i → ld h1 x (m * t + j) = ld h x (m * s + j)
theorem rk_178 (r : RK h s T S) (h5 : S 5 0 ≤ 40) (ht : 0 ≤ t ∧ t < 23) (ne : t ≠ s) (d : Nat) : ∃ h', C d 178 [(2, 311), (0, t), (0, s)] h = some ((9, 0), h') ∧ FrA t h h' ∧ RK h' t T S := by
  have w := r.w
  have hs := r.2.1
  have t1 := r.K.2.1
  have t2 := r.K.2.2.1
  -- the single cells
  have one : ∀ (h1 : Hp) (x : Int), FrA t h h1 → ((333 ≤ x ∧ x ≤ 337) ∨ x = 342) → nptA x = true → FrA t h (st h1 x t (ld h1 x s)) ∧ ld h1 x s = ld h x s := fun h1 x f hx hn => ⟨FrA_st f (by unfold inA; omega) (nA x hn _) _, f.2.2 x s (by omega) (by omega) (by omega) (by unfold inA; omega)⟩
  obtain ⟨f1, e1⟩ := one h 333 (FrA_rf w) (by omega) (by decide +kernel)
  have w1 := f1.1
  obtain ⟨f2, e2⟩ := one _ 334 f1 (by omega) (by decide +kernel)
  have w2 := f2.1
  obtain ⟨f3, e3⟩ := one _ 335 f2 (by omega) (by decide +kernel)
  have w3 := f3.1
  obtain ⟨f4, e4⟩ := one _ 336 f3 (by omega) (by decide +kernel)
  have w4 := f4.1
  obtain ⟨f5, e5⟩ := one _ 337 f4 (by omega) (by decide +kernel)
  have w5' := f5.1
  obtain ⟨f6, e6⟩ := one _ 342 f5 (by omega) (by decide +kernel)
  have w6 := f6.1
  have c0 : ∃ h6, C d 178 [(2, 311), (0, t), (0, s)] h = V d 178 74 [(2, 311), (0, t), (0, s), (0, 0)] [] h6 ∧ FrA t h h6 ∧ (ld h6 333 t = ld h 333 s ∧ ld h6 334 t = ld h 334 s ∧ ld h6 335 t = ld h 335 s ∧ ld h6 336 t = ld h 336 s ∧ ld h6 337 t = ld h 337 s ∧ ld h6 342 t = ld h 342 s) := by
    refine ⟨_, ?_, f6, ?_⟩
    · rw [ce_178, e178_0, if_pos (F_a311 w), if_pos (F_a311 w), P_311_36 w, if_pos (F_a333 w), L_a333 w, if_pos hs, if_pos (W_a333 w), if_pos ht, e178_12, if_pos (F_a311 w1), if_pos (F_a311 w1), P_311_37 w1, if_pos (F_a334 w1), L_a334 w1, if_pos hs, if_pos (W_a334 w1), if_pos ht, e178_24, if_pos (F_a311 w2), if_pos (F_a311 w2), P_311_38 w2, if_pos (F_a335 w2), L_a335 w2, if_pos hs, if_pos (W_a335 w2), if_pos ht, e178_36, if_pos (F_a311 w3), if_pos (F_a311 w3), P_311_39 w3, if_pos (F_a336 w3), L_a336 w3, if_pos hs, if_pos (W_a336 w3), if_pos ht, e178_48, if_pos (F_a311 w4), if_pos (F_a311 w4), P_311_40 w4, if_pos (F_a337 w4), L_a337 w4, if_pos hs, if_pos (W_a337 w4), if_pos ht, e178_60, if_pos (F_a311 w5'), if_pos (F_a311 w5'), P_311_45 w5', if_pos (F_a342 w5'), L_a342 w5', if_pos hs, if_pos (W_a342 w5'), if_pos ht, e178_72]
    · refine ⟨?_, ?_, ?_, ?_, ?_, ?_⟩
      · simp only [ld_stE]; simp
      · rw [← e2]; simp only [ld_stE]; simp
      · rw [← e3]; simp only [ld_stE]; simp
      · rw [← e4]; simp only [ld_stE]; simp
      · rw [← e5]; simp only [ld_stE]; simp
      · rw [← e6]; simp only [ld_stE]; simp
  obtain ⟨h6, a6, f6, g⟩ := c0
  -- the purses
  have l5 : ∀ (m : Nat) (i : Int) (h1 : Hp), FrA t h6 h1 → (∀ x j, (x ≠ 338) → ld h1 x j = ld h6 x j) → 0 ≤ i → i + m = 5 → cpd h h1 t s 338 5 i → ∃ h', V d 178 74 [(2, 311), (0, t), (0, s), (0, i)] [] h1 = V d 178 107 [(2, 311), (0, t), (0, s), (0, 0)] [] h' ∧ FrA t h6 h' ∧ (∀ x j, x ≠ 338 → ld h' x j = ld h6 x j) ∧ cpd h h' t s 338 5 5 := by
    intro m
    induction m with
    | zero =>
      intro i h1 f o i0 hi c
      refine ⟨h1, ?_, f, o, fun j j0 j1 => c j j0 (by omega)⟩
      rw [e178_74, if_neg (by omega), e178_105]
    | succ m ih =>
      intro i h1 f o i0 hi c
      have w1 := f.1
      have ev : ld h1 338 (5 * s + i) = ld h 338 (5 * s + i) := (f.2.2 338 _ (by omega) (by omega) (by omega) (by unfold inA; omega)).trans (f6.2.2 338 _ (by omega) (by omega) (by omega) (by unfold inA; omega))
      obtain ⟨h', aa, ff⟩ := ih (i + 1) (st h1 338 (5 * t + i) (ld h1 338 (5 * s + i))) (FrA_st f (by unfold inA; omega) (nA 338 (by decide +kernel) _) _) (fun x j e => (ld_st_ne (Or.inl e)).trans (o x j e)) (by omega) (by omega) (fun j j0 j1 => by
        rw [ld_stE]
        by_cases z : j = i
        · rw [if_pos ⟨rfl, by omega⟩, z, ev]
        · rw [if_neg (by omega)]; exact c j j0 (by omega))
      refine ⟨h', ?_, ff⟩
      rw [e178_74, if_pos (by omega), if_pos (F_a311 w1), if_pos (F_a311 w1), P_311_41 w1, if_pos (F_a338 w1), w5 hs (by omega), L_a338 w1, if_pos (by omega), if_pos (W_a338 w1), w5 ht (by omega), if_pos (by omega), e178_99, show w32 (i + 1) = i + 1 by unfold w32; omega, aa]
  obtain ⟨h7, a7, f7, o7, c7⟩ := l5 5 0 h6 (FrA_rf f6.1) (fun _ _ _ => rfl) (by decide) (by decide) (fun j j0 j1 => by omega)
  -- the pieces
  have l10 : ∀ (m : Nat) (i : Int) (h1 : Hp), FrA t h7 h1 → (∀ x j, ¬ (339 ≤ x ∧ x ≤ 341) → ld h1 x j = ld h7 x j) → 0 ≤ i → i + m = 10 → cpd h h1 t s 339 10 i → cpd h h1 t s 340 10 i → cpd h h1 t s 341 10 i → ∃ h', V d 178 107 [(2, 311), (0, t), (0, s), (0, i)] [] h1 = V d 178 187 [(2, 311), (0, t), (0, s), (0, 0)] [] h' ∧ FrA t h7 h' ∧ (∀ x j, ¬ (339 ≤ x ∧ x ≤ 341) → ld h' x j = ld h7 x j) ∧ cpd h h' t s 339 10 10 ∧ cpd h h' t s 340 10 10 ∧ cpd h h' t s 341 10 10 := by
    intro m
    induction m with
    | zero =>
      intro i h1 f o i0 hi c1 c2 c3
      have e : (10 : Int) = i := by omega
      refine ⟨h1, ?_, f, o, ?_, ?_, ?_⟩
      · rw [e178_107, if_neg (by omega), e178_185]
      · intro j j0 j1; exact c1 j j0 (by omega)
      · intro j j0 j1; exact c2 j j0 (by omega)
      · intro j j0 j1; exact c3 j j0 (by omega)
    | succ m ih =>
      intro i h1 f o i0 hi c1 c2 c3
      have w1 := f.1
      have ev : ∀ x, 339 ≤ x → x ≤ 341 → ld h1 x (10 * s + i) = ld h x (10 * s + i) := fun x u v => (f.2.2 x _ (by omega) (by omega) (by omega) (by unfold inA; omega)).trans ((o7 x _ (by omega)).trans (f6.2.2 x _ (by omega) (by omega) (by omega) (by unfold inA; omega)))
      have g1 := FrA_st f (x := 339) (j := 10 * t + i) (by unfold inA; omega) (nA 339 (by decide +kernel) _) (ld h 339 (10 * s + i))
      have g2 := FrA_st g1 (x := 340) (j := 10 * t + i) (by unfold inA; omega) (nA 340 (by decide +kernel) _) (ld h 340 (10 * s + i))
      have g3 := FrA_st g2 (x := 341) (j := 10 * t + i) (by unfold inA; omega) (nA 341 (by decide +kernel) _) (ld h 341 (10 * s + i))
      have v2 := g1.1
      have v3 := g2.1
      obtain ⟨h', aa, ff⟩ := ih (i + 1) _ g3 (fun x j e => by rw [ld_st_ne (by omega), ld_st_ne (by omega), ld_st_ne (by omega)]; exact o x j e) (by omega) (by omega) (fun j j0 j1 => by
        rw [ld_stE, ld_stE, ld_stE, if_neg (by omega), if_neg (by omega)]
        by_cases z : j = i
        · rw [if_pos ⟨rfl, by omega⟩, z]
        · rw [if_neg (by omega)]; exact c1 j j0 (by omega)) (fun j j0 j1 => by
        rw [ld_stE, ld_stE, ld_stE, if_neg (by omega)]
        by_cases z : j = i
        · rw [if_pos ⟨rfl, by omega⟩, z]
        · rw [if_neg (by omega), if_neg (by omega)]; exact c2 j j0 (by omega)) (fun j j0 j1 => by
        rw [ld_stE, ld_stE, ld_stE]
        by_cases z : j = i
        · rw [if_pos ⟨rfl, by omega⟩, z]
        · rw [if_neg (by omega), if_neg (by omega), if_neg (by omega)]; exact c3 j j0 (by omega))
      refine ⟨h', ?_, ff⟩
      have i10 : 0 ≤ i ∧ i < 10 := by omega
      have x2 : ld (st h1 339 (10 * t + i) (ld h 339 (10 * s + i))) 340 (10 * s + i) = ld h 340 (10 * s + i) := (ld_st_ne (Or.inl (by decide))).trans (ev 340 (by decide) (by decide))
      have x3 : ld (st (st h1 339 (10 * t + i) (ld h 339 (10 * s + i))) 340 (10 * t + i) (ld h 340 (10 * s + i))) 341 (10 * s + i) = ld h 341 (10 * s + i) := (ld_st_ne (Or.inl (by decide))).trans ((ld_st_ne (Or.inl (by decide))).trans (ev 341 (by decide) (by decide)))
      rw [e178_107, if_pos (by omega), if_pos (F_a311 w1), if_pos (F_a311 w1), P_311_42 w1, if_pos (F_a339 w1), w10 hs i10, L_a339 w1, if_pos (by omega), if_pos (W_a339 w1), w10 ht i10, if_pos (by omega), ev 339 (by decide) (by decide), e178_135, if_pos (F_a311 v2), if_pos (F_a311 v2), P_311_43 v2, if_pos (F_a340 v2), w10 hs i10, L_a340 v2, if_pos (by omega), if_pos (W_a340 v2), w10 ht i10, if_pos (by omega), x2, e178_157, if_pos (F_a311 v3), if_pos (F_a311 v3), P_311_44 v3, if_pos (F_a341 v3), w10 hs i10, L_a341 v3, if_pos (by omega), if_pos (W_a341 v3), w10 ht i10, if_pos (by omega), x3, e178_179, show w32 (i + 1) = i + 1 by unfold w32; omega, aa]
  obtain ⟨h8, a8, f8, o8, c8, c9, c10⟩ := l10 10 0 h7 (FrA_rf f7.1) (fun _ _ _ => rfl) (by decide) (by decide) (fun j j0 j1 => by omega) (fun j j0 j1 => by omega) (fun j j0 j1 => by omega)
  -- who owned what
  have l40 : ∀ (m : Nat) (i : Int) (h1 : Hp), FrA t h8 h1 → (∀ x j, ¬ (343 ≤ x ∧ x ≤ 344) → ld h1 x j = ld h8 x j) → 0 ≤ i → i + m = 40 → cpd h h1 t s 343 40 i → cpd h h1 t s 344 40 i → ∃ h', V d 178 187 [(2, 311), (0, t), (0, s), (0, i)] [] h1 = some ((9, 0), h') ∧ FrA t h8 h' ∧ (∀ x j, ¬ (343 ≤ x ∧ x ≤ 344) → ld h' x j = ld h8 x j) ∧ cpd h h' t s 343 40 40 ∧ cpd h h' t s 344 40 40 := by
    intro m
    induction m with
    | zero =>
      intro i h1 f o i0 hi c1 c2
      refine ⟨h1, ?_, f, o, ?_, ?_⟩
      · rw [e178_187, if_neg (by omega), e178_243]
      · intro j j0 j1; exact c1 j j0 (by omega)
      · intro j j0 j1; exact c2 j j0 (by omega)
    | succ m ih =>
      intro i h1 f o i0 hi c1 c2
      have w1 := f.1
      have ev : ∀ x, 343 ≤ x → x ≤ 344 → ld h1 x (40 * s + i) = ld h x (40 * s + i) := fun x u v => (f.2.2 x _ (by omega) (by omega) (by omega) (by unfold inA; omega)).trans ((o8 x _ (by omega)).trans ((o7 x _ (by omega)).trans (f6.2.2 x _ (by omega) (by omega) (by omega) (by unfold inA; omega))))
      have g1 := FrA_st f (x := 343) (j := 40 * t + i) (by unfold inA; omega) (nA 343 (by decide +kernel) _) (ld h 343 (40 * s + i))
      have g2 := FrA_st g1 (x := 344) (j := 40 * t + i) (by unfold inA; omega) (nA 344 (by decide +kernel) _) (ld h 344 (40 * s + i))
      have v2 := g1.1
      obtain ⟨h', aa, ff⟩ := ih (i + 1) _ g2 (fun x j e => by rw [ld_st_ne (by omega), ld_st_ne (by omega)]; exact o x j e) (by omega) (by omega) (fun j j0 j1 => by
        rw [ld_stE, ld_stE, if_neg (by omega)]
        by_cases z : j = i
        · rw [if_pos ⟨rfl, by omega⟩, z]
        · rw [if_neg (by omega)]; exact c1 j j0 (by omega)) (fun j j0 j1 => by
        rw [ld_stE, ld_stE]
        by_cases z : j = i
        · rw [if_pos ⟨rfl, by omega⟩, z]
        · rw [if_neg (by omega), if_neg (by omega)]; exact c2 j j0 (by omega))
      refine ⟨h', ?_, ff⟩
      have i10 : 0 ≤ i ∧ i < 40 := by omega
      have x2 : ld (st h1 343 (40 * t + i) (ld h 343 (40 * s + i))) 344 (40 * s + i) = ld h 344 (40 * s + i) := (ld_st_ne (Or.inl (by decide))).trans (ev 344 (by decide) (by decide))
      rw [e178_187, if_pos (by omega), if_pos (F_a311 w1), if_pos (F_a311 w1), P_311_46 w1, if_pos (F_a343 w1), w40 hs i10, L_a343 w1, if_pos (by omega), if_pos (W_a343 w1), w40 ht i10, if_pos (by omega), ev 343 (by decide) (by decide), e178_215, if_pos (F_a311 v2), if_pos (F_a311 v2), P_311_47 v2, if_pos (F_a344 v2), w40 hs i10, L_a344 v2, if_pos (by omega), if_pos (W_a344 v2), w40 ht i10, if_pos (by omega), x2, e178_237, show w32 (i + 1) = i + 1 by unfold w32; omega, aa]
  obtain ⟨h9, a9, f9, o9, c11, c12⟩ := l40 40 0 h8 (FrA_rf f8.1) (fun _ _ _ => rfl) (by decide) (by decide) (fun j j0 j1 => by omega) (fun j j0 j1 => by omega)
  have fA : FrA t h h9 := FrA_tr f6 (FrA_tr f7 (FrA_tr f8 f9))
  have up9 : ∀ x j, ¬ (343 ≤ x ∧ x ≤ 344) → ¬ (339 ≤ x ∧ x ≤ 341) → x ≠ 338 → ld h9 x j = ld h6 x j := fun x j u v z => (o9 x j u).trans ((o8 x j v).trans (o7 x j z))
  refine ⟨h9, by rw [a6, a7, a8, a9], fA, RT_A r.1 fA, ht, ?_, r.2.2.2⟩
  rw [← r.2.2.1]
  obtain ⟨g1, g2, g3, g4, g5, g6⟩ := g
  have k5 := rs5 r
  exact sR_cp ((up9 333 t (by decide) (by decide) (by decide)).trans g1) ((up9 334 t (by decide) (by decide) (by decide)).trans g2) ((up9 335 t (by decide) (by decide) (by decide)).trans g3) ((up9 336 t (by decide) (by decide) (by decide)).trans g4) ((up9 337 t (by decide) (by decide) (by decide)).trans g5) ((up9 342 t (by decide) (by decide) (by decide)).trans g6) (fun i i0 i1 => ((o9 338 _ (by decide)).trans (o8 338 _ (by decide))).trans (c7 i i0 (by omega))) (fun i i0 i1 => (o9 339 _ (by decide)).trans (c8 i i0 (by omega))) (fun i i0 i1 => (o9 340 _ (by decide)).trans (c9 i i0 (by omega))) (fun i i0 i1 => (o9 341 _ (by decide)).trans (c10 i i0 (by omega))) (fun i i0 i1 => c11 i i0 (by omega)) (fun i i0 i1 => c12 i i0 (by omega))
/-- another studio does not see it -/
theorem RK_o (r : RK h s T S) (f : FrA t h h') (ne : t ≠ s) (h5 : S 5 0 ≤ 40) : RK h' s T S := by
  have t1 := r.K.2.1
  have t2 := r.K.2.2.1
  have g : ∀ x j, x ≠ 348 → x ≠ 349 → x ≠ 311 → ¬ inA t x j → ld h' x j = ld h x j := fun x j u v w z => f.2.2 x j u v (fun y => w y.1) z
  have k5 := rs5 r
  refine ⟨RT_A r.1 f, r.2.1, ?_, r.2.2.2⟩
  rw [← r.2.2.1]
  have e1 : ∀ x, (333 ≤ x ∧ x ≤ 337) ∨ x = 342 → ld h' x s = ld h x s := fun x e => g x s (by omega) (by omega) (by omega) (by unfold inA; omega)
  exact sR_cp (e1 333 (by decide)) (e1 334 (by decide)) (e1 335 (by decide)) (e1 336 (by decide)) (e1 337 (by decide)) (e1 342 (by decide)) (fun i i0 i1 => g 338 _ (by omega) (by omega) (by omega) (by unfold inA; omega)) (fun i i0 i1 => g 339 _ (by omega) (by omega) (by omega) (by unfold inA; omega)) (fun i i0 i1 => g 340 _ (by omega) (by omega) (by omega) (by unfold inA; omega)) (fun i i0 i1 => g 341 _ (by omega) (by omega) (by omega) (by unfold inA; omega)) (fun i i0 i1 => g 343 _ (by omega) (by omega) (by omega) (by unfold inA; omega)) (fun i i0 i1 => g 344 _ (by omega) (by omega) (by omega) (by unfold inA; omega))
end RC
