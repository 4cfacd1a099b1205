/-! layer 2: the reader starts -/
theorem kq_57 {h : Hp} (w : WF h) {b n : Int} (hb : b ∈ BKL) (eb : ld h 3 1 = b) (hn : 0 ≤ n ∧ n ≤ 700) (h5 : 0 ≤ ld h 4 5 ∧ ld h 4 5 ≤ 100000) (d : Nat) : ∃ h', C (d + 7) 57 [(2, 4), (2, 2), (0, n)] h = some ((9, 0), h') ∧ WF h' ∧ h'.2 = h.2 ∧ (∀ a j, a ≠ 4 → ld h' a j = ld h a j) ∧ PS h' (tpC h) b n (lxP (tpC h) n 0) := by
  have n40 : npt 4 0 := npt_J (by decide +kernel)
  have n41 : npt 4 1 := npt_J (by decide +kernel)
  have w1 : WF (st h 4 0 2) := wf_st w n40
  have w2 : WF (st (st h 4 0 2) 4 1 n) := wf_st w1 n41
  have w3 : WF (st (st (st h 4 0 2) 4 1 n) 4 2 0) := wf_st w2 (n4 (by decide))
  have e0 : ld (st (st (st h 4 0 2) 4 1 n) 4 2 0) 4 0 = 2 := by rw [ld_st_ne (Or.inr (by decide)), ld_st_ne (Or.inr (by decide)), ld_st_eq]
  have e1 : ld (st (st (st h 4 0 2) 4 1 n) 4 2 0) 4 1 = n := by rw [ld_st_ne (Or.inr (by decide)), ld_st_eq]
  have e5 : ld (st (st (st h 4 0 2) 4 1 n) 4 2 0) 4 5 = ld h 4 5 := by rw [ld_st_ne (Or.inr (by decide)), ld_st_ne (Or.inr (by decide)), ld_st_ne (Or.inr (by decide))]
  have fr : ∀ a j, a ≠ 4 → ld (st (st (st h 4 0 2) 4 1 n) 4 2 0) a j = ld h a j := fun a j e => by rw [ld_st_ne (Or.inl e), ld_st_ne (Or.inl e), ld_st_ne (Or.inl e)]
  have rr : RdC (st (st (st h 4 0 2) 4 1 n) 4 2 0) n 0 := ⟨w3, e0, e1, hn, ld_st_eq _ _ _ _, by decide, hn.1⟩
  obtain ⟨h', a, f, r', g3, g4, g5, g6, g7⟩ := kq_58 rr (by rw [e5]; exact h5) d
  have ht : tpC (st (st (st h 4 0 2) 4 1 n) 4 2 0) = tpC h := funext fun j => fr 2 j (by decide)
  rw [ht] at r' g3 g4 g6 g7
  refine ⟨h', ?_, f.1, f.2.1, fun x j e => (f.2.2 x j (fun z => e z.1)).trans (fr x j e), r', (FrR_tp f).trans ht, hb, (f.2.2 3 1 (by decide)).trans ((fr 3 1 (by decide)).trans eb), g3, g4, g5, g6, g7⟩
  rw [ce_57, e57_0, if_pos (W_a4 w), if_pos (F_a2 w1), L_a2 w1, Cl_eq _ (min245 (d + 6) _ _), Cl_eq _ (max243 (d + 6) _ _), if_pos (W_a4 w1), show imax 0 (imin n 700) = n by unfold imax imin; split <;> split <;> omega, e57_19, if_pos (W_a4 w2), if_pos (F_a4 w3), Cl_eq _ a, e57_28]
