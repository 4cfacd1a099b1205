/-! layer 2: the plain program's reader -/
section RE
variable {h h' : Hp} {tp : Int → Int} {n i : Int}
def RC (h : Hp) (tp : Int → Int) (n i : Int) : Prop := WF h ∧ (∀ j : Int, 0 ≤ j → j < 700 → ld h 312 j = tp j ∧ (0 ≤ tp j ∧ tp j ≤ 255)) ∧ ld h 311 25 = n ∧ (0 ≤ n ∧ n ≤ 700) ∧ ld h 311 26 = i ∧ 0 ≤ i ∧ i ≤ n
def FrL (h h' : Hp) : Prop := WF h' ∧ h'.2 = h.2 ∧ ∀ a j : Int, ¬ (a = 311 ∧ 26 ≤ j ∧ j ≤ 29) → ld h' a j = ld h a j
theorem FrL_rf (w : WF h) : FrL h h := ⟨w, rfl, fun _ _ _ => rfl⟩
theorem FrL_tr {h1 h2 : Hp} (f : FrL h h1) (g : FrL h1 h2) : FrL h h2 := ⟨g.1, g.2.1.trans f.2.1, fun a j e => (g.2.2 a j e).trans (f.2.2 a j e)⟩
theorem nlx {j : Int} (hj : 26 ≤ j ∧ j ≤ 29) : npt 311 j := npt_J (by
  have h6 : j = 26 ∨ j = 27 ∨ j = 28 ∨ j = 29 := by omega
  rcases h6 with rfl | rfl | rfl | rfl <;> decide +kernel)
theorem FrL_st (w : WF h) {j : Int} (hj : 26 ≤ j ∧ j ≤ 29) (v : Int) : FrL h (st h 311 j v) := ⟨wf_st w (nlx hj), rfl, fun a i e => ld_st_ne (by omega)⟩
theorem RC_fr {k : Int} (c : RC h tp n i) (f : FrL h h') (e : ld h' 311 26 = k) (hk : 0 ≤ k ∧ k ≤ n) : RC h' tp n k := ⟨f.1, fun j j0 j1 => by rw [f.2.2 312 j (by omega)]; exact c.2.1 j j0 j1, (f.2.2 311 25 (by omega)).trans c.2.2.1, c.2.2.2.1, e, hk⟩
theorem rk_138 (c : RC h tp n i) (d : Nat) : C d 138 [(2, 311)] h = some ((0, lxX tp n i), h) := by
  obtain ⟨w, ht, e25, hn, e26, hi⟩ := id c
  unfold lxX
  rw [ce_138, e138_0, if_pos (F_a311 w), if_pos (F_a311 w), e26, e25]
  by_cases q : i < n
  · rw [if_pos q, if_pos q, e138_11, if_pos (F_a311 w), P_311_1 w, if_pos (F_a311 w), e26, if_pos (F_a312 w), L_a312 w, if_pos (by omega), (ht i hi.1 (by omega)).1, e138_24]
  · rw [if_neg q, if_neg q, e138_23, e138_24]
theorem rk_139 (h : Hp) (x : Int) (d : Nat) : C d 139 [(0, x)] h = some ((0, bI (clo x)), h) := by
  unfold clo
  rw [ce_139, e139_0]
  by_cases q : x < 97
  · rw [if_pos q, e139_16, e139_17, if_pos (Or.inl rfl), decide_eq_true q]; rfl
  by_cases q2 : 122 < x
  · rw [if_neg q, if_pos q2, e139_16, e139_17, if_pos (Or.inl rfl), decide_eq_false q, decide_eq_true q2]; rfl
  · rw [if_neg q, if_neg q2, e139_12, e139_17, if_pos (Or.inr rfl), decide_eq_false q, decide_eq_false q2]; rfl
theorem rk_140 (h : Hp) (x : Int) (d : Nat) : C d 140 [(0, x)] h = some ((0, bI (cdg x)), h) := by
  unfold cdg
  rw [ce_140, e140_0]
  by_cases q : x < 48
  · rw [if_pos q, e140_16, e140_17, if_pos (Or.inl rfl), decide_eq_true q]; rfl
  by_cases q2 : 57 < x
  · rw [if_neg q, if_pos q2, e140_16, e140_17, if_pos (Or.inl rfl), decide_eq_false q, decide_eq_true q2]; rfl
  · rw [if_neg q, if_neg q2, e140_12, e140_17, if_pos (Or.inr rfl), decide_eq_false q, decide_eq_false q2]; rfl
theorem RC_in (c : RC h tp n i) : FrL h (st h 311 26 (i + 1)) := FrL_st c.1 (by decide) _
theorem lex_ws (d : Nat) : ∀ (m : Nat) (i : Int) (h : Hp), RC h tp n i → i + m = n → ∃ h', V (d + 1) 141 0 [(2, 311), (9, 0)] [] h = V (d + 1) 141 31 [(2, 311), (9, 0)] [] h' ∧ FrL h h' ∧ RC h' tp n (lxr cws tp m i) ∧ ∀ j, j ≠ 26 → ld h' 311 j = ld h 311 j
  | 0, i, h, c, hm => by
    have w := c.1
    refine ⟨h, ?_, FrL_rf w, c, fun _ _ => rfl⟩
    have e : lxX tp n i = -1 := by unfold lxX; rw [if_neg (by omega)]
    rw [e141_0, if_pos (F_a311 w), Cl_eq _ (rk_138 c d), e, if_neg (by decide), if_pos (F_a311 w), Cl_eq _ (rk_138 c d), e, if_neg (by decide)]
  | m + 1, i, h, c, hm => by
    obtain ⟨w, ht, e25, hn, e26, hi⟩ := id c
    have e : lxX tp n i = tp i := by unfold lxX; rw [if_pos (by omega)]
    have f1 := RC_in c
    have c1 : RC (st h 311 26 (i + 1)) tp n (i + 1) := RC_fr c f1 (ld_st_eq _ _ _ _) ⟨by omega, by omega⟩
    have e18 : V (d + 1) 141 18 [(2, 311), (9, 0)] [] h = V (d + 1) 141 0 [(2, 311), (9, 0)] [] (st h 311 26 (i + 1)) := by
      rw [e141_18, if_pos (F_a311 w), e26, if_pos (W_a311 w), show w32 (i + 1) = i + 1 by unfold w32; omega, e141_28]
    obtain ⟨h', a1, a2, a3, a4⟩ := lex_ws d m (i + 1) _ c1 (by omega)
    have go : cws (tp i) = true → ∃ h', V (d + 1) 141 18 [(2, 311), (9, 0)] [] h = V (d + 1) 141 31 [(2, 311), (9, 0)] [] h' ∧ FrL h h' ∧ RC h' tp n (lxr cws tp (m + 1) i) ∧ ∀ j, j ≠ 26 → ld h' 311 j = ld h 311 j := fun q => by
      refine ⟨h', by rw [e18, a1], FrL_tr f1 a2, ?_, fun j hj => (a4 j hj).trans (ld_st_ne (Or.inr hj))⟩
      unfold lxr; rw [q, if_pos rfl]; exact a3
    rw [e141_0, if_pos (F_a311 w), Cl_eq _ (rk_138 c d), e]
    by_cases q1 : tp i = 10
    · rw [if_pos q1]; exact go (by unfold cws; rw [decide_eq_true q1]; rfl)
    rw [if_neg q1, if_pos (F_a311 w), Cl_eq _ (rk_138 c d), e]
    by_cases q2 : tp i = 32
    · rw [if_pos q2]; exact go (by unfold cws; rw [decide_eq_true q2, Bool.or_true])
    · rw [if_neg q2]
      refine ⟨h, rfl, FrL_rf w, ?_, fun _ _ => rfl⟩
      unfold lxr
      rw [show cws (tp i) = false by unfold cws; rw [decide_eq_false q1, decide_eq_false q2]; rfl, if_neg (by decide)]
      exact c
theorem lex_lo (d : Nat) : ∀ (m : Nat) (i : Int) (h : Hp), RC h tp n i → i + m = n → ∃ h', V (d + 1) 141 64 [(2, 311), (9, 0)] [] h = V (d + 1) 141 87 [(2, 311), (9, 0)] [] h' ∧ FrL h h' ∧ RC h' tp n (lxr clo tp m i) ∧ ∀ j, j ≠ 26 → ld h' 311 j = ld h 311 j
  | 0, i, h, c, hm => by
    have w := c.1
    refine ⟨h, ?_, FrL_rf w, c, fun _ _ => rfl⟩
    have e : lxX tp n i = -1 := by unfold lxX; rw [if_neg (by omega)]
    rw [e141_64, if_pos (F_a311 w), Cl_eq _ (rk_138 c d), e, Cl_eq _ (rk_139 h (-1) d), show clo (-1) = false by decide, if_pos bI_f]
  | m + 1, i, h, c, hm => by
    obtain ⟨w, ht, e25, hn, e26, hi⟩ := id c
    have e : lxX tp n i = tp i := by unfold lxX; rw [if_pos (by omega)]
    have f1 := RC_in c
    have c1 : RC (st h 311 26 (i + 1)) tp n (i + 1) := RC_fr c f1 (ld_st_eq _ _ _ _) ⟨by omega, by omega⟩
    obtain ⟨h', a1, a2, a3, a4⟩ := lex_lo d m (i + 1) _ c1 (by omega)
    unfold lxr
    rw [e141_64, if_pos (F_a311 w), Cl_eq _ (rk_138 c d), e, Cl_eq _ (rk_139 h (tp i) d)]
    cases q : clo (tp i) with
    | true =>
      rw [if_neg (by decide), if_pos (F_a311 w), e26, if_pos (W_a311 w), show w32 (i + 1) = i + 1 by unfold w32; omega, e141_84, if_pos rfl]
      exact ⟨h', a1, FrL_tr f1 a2, a3, fun j hj => (a4 j hj).trans (ld_st_ne (Or.inr hj))⟩
    | false =>
      rw [if_pos bI_f, if_neg (by decide)]
      exact ⟨h, rfl, FrL_rf w, c, fun _ _ => rfl⟩
theorem lex_dg (d : Nat) : ∀ (m : Nat) (i v : Int) (h : Hp), RC h tp n i → i + m = n → ld h 311 29 = v → (0 ≤ v ∧ v ≤ 100000) → ∃ h' v', V (d + 1) 141 162 [(2, 311), (9, 0)] [] h = some ((9, 0), h') ∧ FrL h h' ∧ RC h' tp n (lxr cdg tp m i) ∧ (ld h' 311 29 = v' ∧ (0 ≤ v' ∧ v' ≤ 100000) ∧ imin 10000 v' = lxN tp 0 (lxr cdg tp m i - i).toNat i (imin 10000 v)) ∧ ∀ j, j ≠ 26 → j ≠ 29 → ld h' 311 j = ld h 311 j
  | 0, i, v, h, c, hm, e29, hv => by
    have w := c.1
    have e : lxX tp n i = -1 := by unfold lxX; rw [if_neg (by omega)]
    refine ⟨h, v, ?_, FrL_rf w, c, ⟨e29, hv, ?_⟩, fun _ _ _ => rfl⟩
    · rw [e141_162, if_pos (F_a311 w), Cl_eq _ (rk_138 c d), e, Cl_eq _ (rk_140 h (-1) d), show cdg (-1) = false by decide, if_pos bI_f, e141_226]
    · show _ = lxN tp 0 (i - i).toNat i _
      rw [show (i - i).toNat = 0 by omega]; rfl
  | m + 1, i, v, h, c, hm, e29, hv => by
    obtain ⟨w, ht, e25, hn, e26, hi⟩ := id c
    have e : lxX tp n i = tp i := by unfold lxX; rw [if_pos (by omega)]
    unfold lxr
    rw [e141_162, if_pos (F_a311 w), Cl_eq _ (rk_138 c d), e, Cl_eq _ (rk_140 h (tp i) d)]
    cases q : cdg (tp i) with
    | false =>
      rw [if_pos bI_f, if_neg (by decide)]
      refine ⟨h, v, by rw [e141_226], FrL_rf w, c, ⟨e29, hv, ?_⟩, fun _ _ _ => rfl⟩
      rw [show (i - i).toNat = 0 by omega]; rfl
    | true =>
      have hd : 48 ≤ tp i ∧ tp i ≤ 57 := by
        unfold cdg at q
        simp only [Bool.and_eq_true, Bool.not_eq_true', decide_eq_false_iff_not] at q
        omega
      rw [if_neg (by decide), if_pos rfl, if_pos (F_a311 w), e29]
      have nx : ∃ u : Int, (0 ≤ u ∧ u ≤ 100000) ∧ imin 10000 u = imin 10000 (imin 10000 v * 10 + (tp i - 48)) ∧ (if 9999 < v then V (d + 1) 141 183 [(2, 311), (9, 0)] [(2, 311)] h else V (d + 1) 141 190 [(2, 311), (9, 0)] [(2, 311)] h) = V (d + 1) 141 205 [(2, 311), (9, 0)] [(0, u), (2, 311)] h := by
        by_cases y : 9999 < v
        · refine ⟨v, hv, by unfold imin; split <;> split <;> omega, ?_⟩
          rw [if_pos y, e141_183, if_pos (F_a311 w), e29]
        · refine ⟨10 * v + tp i - 48, by omega, by unfold imin; split <;> split <;> split <;> omega, ?_⟩
          rw [if_neg y, e141_190, if_pos (F_a311 w), if_pos (F_a311 w), e29, Cl_eq _ (rk_138 c d), e, show w32 (w32 (w32 (10 * v) + tp i) - 48) = 10 * v + tp i - 48 by
            rw [show w32 (10 * v) = 10 * v by unfold w32; omega, show w32 (10 * v + tp i) = 10 * v + tp i by unfold w32; omega]
            unfold w32; omega]
      obtain ⟨u, hu, eu, ev⟩ := nx
      have f1 := FrL_st w (j := 29) (by decide) u
      have f2 := FrL_st f1.1 (j := 26) (by decide) (i + 1)
      have l26 : ld (st h 311 29 u) 311 26 = i := (ld_st_ne (Or.inr (by decide))).trans e26
      have c2 : RC (st (st h 311 29 u) 311 26 (i + 1)) tp n (i + 1) := RC_fr c (FrL_tr f1 f2) (ld_st_eq _ _ _ _) ⟨by omega, by omega⟩
      obtain ⟨h', v', a1, a2, a3, ⟨a4, a5, a6⟩, a7⟩ := lex_dg d m (i + 1) u _ c2 (by omega) ((ld_st_ne (Or.inr (by decide))).trans (ld_st_eq _ _ _ _)) hu
      have lb := lxr_b cdg tp m (i + 1)
      refine ⟨h', v', ?_, FrL_tr f1 (FrL_tr f2 a2), a3, ⟨a4, a5, ?_⟩, fun j j0 j1 => (a7 j j0 j1).trans ((ld_st_ne (Or.inr j0)).trans (ld_st_ne (Or.inr j1)))⟩
      · rw [ev, e141_205, if_pos (W_a311 w), if_pos (F_a311 f1.1), l26, if_pos (W_a311 f1.1), show w32 (i + 1) = i + 1 by unfold w32; omega, e141_218, a1]
      · rw [a6, show (lxr cdg tp m (i + 1) - i).toNat = (lxr cdg tp m (i + 1) - (i + 1)).toNat + 1 by omega]
        show _ = lxN tp 0 _ (i + 1) (imin 10000 (imin 10000 v * 10 + (tp i - 48)))
        rw [eu]
end RE
