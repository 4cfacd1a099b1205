/-! layer 2: the class's reader -/
def tpC (h : Hp) : Int → Int := fun j => ld h 2 j
/-- only the reader's numbers change -/
def FrR (h h' : Hp) : Prop := WF h' ∧ h'.2 = h.2 ∧ ∀ a j : Int, ¬ (a = 4 ∧ 2 ≤ j ∧ j ≤ 6) → ld h' a j = ld h a j
theorem FrR_rf {h : Hp} (w : WF h) : FrR h h := ⟨w, rfl, fun _ _ _ => rfl⟩
theorem FrR_tr {h h1 h2 : Hp} (f : FrR h h1) (g : FrR h1 h2) : FrR h h2 := ⟨g.1, g.2.1.trans f.2.1, fun a j e => (g.2.2 a j e).trans (f.2.2 a j e)⟩
theorem n4 {j : Int} (hj : 2 ≤ j ∧ j ≤ 6) : npt 4 j := npt_J (by
  have h6 : j = 2 ∨ j = 3 ∨ j = 4 ∨ j = 5 ∨ j = 6 := by omega
  rcases h6 with rfl | rfl | rfl | rfl | rfl <;> decide +kernel)
theorem FrR_st {h h1 : Hp} (f : FrR h h1) {j : Int} (hj : 2 ≤ j ∧ j ≤ 6) (v : Int) : FrR h (st h1 4 j v) := ⟨wf_st f.1 (n4 hj), f.2.1, fun a i e => (ld_st_ne (by omega)).trans (f.2.2 a i e)⟩
theorem FrR_tp {h h1 : Hp} (f : FrR h h1) : tpC h1 = tpC h := funext fun j => f.2.2 2 j (by omega)
/-- the reader at a place of its tape -/
def RdC (h : Hp) (n i : Int) : Prop := WF h ∧ ld h 4 0 = 2 ∧ ld h 4 1 = n ∧ (0 ≤ n ∧ n ≤ 700) ∧ ld h 4 2 = i ∧ 0 ≤ i ∧ i ≤ n
theorem RdC_fr {h h1 : Hp} {n i j : Int} (r : RdC h n i) (f : FrR h h1) (e : ld h1 4 2 = j) (hj : 0 ≤ j ∧ j ≤ n) : RdC h1 n j := ⟨f.1, (f.2.2 4 0 (by omega)).trans r.2.1, (f.2.2 4 1 (by omega)).trans r.2.2.1, r.2.2.2.1, e, hj⟩
section RD
variable {h : Hp} {n i : Int}
/-- the sign at the reader's place -/
theorem rd_c (r : RdC h n i) (hi : i < n) : okF h 2 3 = true ∧ (0 ≤ i ∧ i < len h 2) := ⟨F_a2 r.1, by rw [L_a2 r.1]; have := r.2.2.2.1; have := r.2.2.2.2.2; omega⟩
theorem w1 (r : RdC h n i) (hi : i < n) : w32 (i + 1) = i + 1 := by have := r.2.2.2.1; have := r.2.2.2.2.2; unfold w32; omega
theorem kq_63 (r : RdC h n i) (x : Int) (d : Nat) : ∃ h', C d 63 [(2, 4), (0, x)] h = some ((0, bI (decide (i < n) && decide (tpC h i = x))), h') ∧ FrR h h' ∧ (∀ j, j ≠ 2 → ld h' 4 j = ld h 4 j) ∧ RdC h' n (if i < n ∧ tpC h i = x then i + 1 else i) := by
  obtain ⟨w, r0, r1, rn, r2, ri⟩ := id r
  rw [ce_63, e63_0, if_pos (F_a4 w), if_pos (F_a4 w), r2, r1]
  by_cases q : i < n
  · obtain ⟨c1, c2⟩ := rd_c r q
    rw [if_pos q, e63_11, if_pos (F_a4 w), if_pos (F_a4 w), r0, r2, if_pos c1, if_pos c2]
    by_cases q2 : ld h 2 i = x
    · have q3 : tpC h i = x := q2
      have f1 := FrR_st (FrR_rf w) (j := 2) (by decide) (i + 1)
      rw [if_pos q2, e63_24, if_pos (F_a4 w), if_pos (W_a4 w), r2, w1 r q, e63_34, if_pos (by decide)]
      exact ⟨_, by simp [q, q3, bI], f1, fun j e => ld_st_ne (Or.inr e), by rw [if_pos ⟨q, q3⟩]; exact RdC_fr r f1 (ld_st_eq _ _ _ _) (by omega)⟩
    · have q3 : ¬ tpC h i = x := q2
      rw [if_neg q2, e63_36, if_pos (by decide)]
      exact ⟨h, by simp [q3, bI], FrR_rf w, fun _ _ => rfl, by rw [if_neg (fun z => q3 z.2)]; exact r⟩
  · rw [if_neg q, e63_36, if_pos (by decide)]
    exact ⟨h, by simp [q, bI], FrR_rf w, fun _ _ => rfl, by rw [if_neg (fun z => q z.1)]; exact r⟩
/-- a number -/
theorem kq_61 (r : RdC h n i) (d : Nat) : ∃ h', C (d + 1) 61 [(2, 4)] h = some ((9, 0), h') ∧ FrR h h' ∧ RdC h' n (lxE cdg (tpC h) n i) ∧ ld h' 4 3 = -4 ∧ ld h' 4 4 = ld h 4 4 ∧ ld h' 4 6 = ld h 4 6 ∧ imin 10000 (ld h' 4 5) = lxN (tpC h) 0 (lxE cdg (tpC h) n i - i).toNat i 0 ∧ 0 ≤ ld h' 4 5 ∧ ld h' 4 5 ≤ 100000 := by
  have key : ∀ (m : Nat) (k v : Int) (h1 : Hp), FrR h h1 → RdC h1 n k → k + m = n → ld h1 4 3 = -4 → ld h1 4 4 = ld h 4 4 → ld h1 4 6 = ld h 4 6 → imin 10000 (ld h1 4 5) = v → 0 ≤ ld h1 4 5 → ld h1 4 5 ≤ 100000 →
      ∃ h', V (d + 1) 61 12 [(2, 4)] [] h1 = some ((9, 0), h') ∧ FrR h h' ∧ RdC h' n (lxr cdg (tpC h) m k) ∧ ld h' 4 3 = -4 ∧ ld h' 4 4 = ld h 4 4 ∧ ld h' 4 6 = ld h 4 6 ∧ imin 10000 (ld h' 4 5) = lxN (tpC h) 0 (lxr cdg (tpC h) m k - k).toNat k v ∧ 0 ≤ ld h' 4 5 ∧ ld h' 4 5 ≤ 100000 := by
    intro m
    induction m with
    | zero =>
      intro k v h1 f1 r1 hk g3 g4 g6 g5 v0 v1
      refine ⟨h1, ?_, f1, r1, g3, g4, g6, ?_, v0, v1⟩
      · rw [e61_12, if_pos (F_a4 r1.1), if_pos (F_a4 r1.1), r1.2.2.2.2.1, r1.2.2.1, if_neg (by omega), e61_93]
      · rw [g5]; show v = lxN (tpC h) 0 (k - k).toNat k v; rw [show (k - k).toNat = 0 by omega]; rfl
    | succ m ih =>
      intro k v h1 f1 r1 hk g3 g4 g6 g5 v0 v1
      have hkn : k < n := by omega
      obtain ⟨c1, c2⟩ := rd_c r1 hkn
      have ec : ld h1 2 k = tpC h k := congrFun (FrR_tp f1) k
      obtain ⟨w', r0', r1', rn', r2', ri'⟩ := id r1
      rw [e61_12, if_pos (F_a4 w'), if_pos (F_a4 w'), r2', r1', if_pos hkn, e61_23, if_pos (F_a4 w'), if_pos (F_a4 w'), r0', r2', if_pos c1, if_pos c2, ec]
      unfold lxr
      have stop : cdg (tpC h k) = false → ∃ h', some (((9 : Nat), (0 : Int)), h1) = some ((9, 0), h') ∧ FrR h h' ∧ RdC h' n (if cdg (tpC h k) = true then lxr cdg (tpC h) m (k + 1) else k) ∧ ld h' 4 3 = -4 ∧ ld h' 4 4 = ld h 4 4 ∧ ld h' 4 6 = ld h 4 6 ∧ imin 10000 (ld h' 4 5) = lxN (tpC h) 0 ((if cdg (tpC h k) = true then lxr cdg (tpC h) m (k + 1) else k) - k).toNat k v ∧ 0 ≤ ld h' 4 5 ∧ ld h' 4 5 ≤ 100000 := fun z => by
        rw [if_neg (by rw [z]; decide), show (k - k).toNat = 0 by omega]
        exact ⟨h1, rfl, f1, r1, g3, g4, g6, g5, v0, v1⟩
      by_cases q1 : tpC h k < 48
      · rw [if_pos q1, e61_93]; exact stop (by unfold cdg; simp [q1])
      · rw [if_neg q1, e61_37, if_pos (F_a4 w'), if_pos (F_a4 w'), r0', r2', if_pos c1, if_pos c2, ec]
        by_cases q2 : 57 < tpC h k
        · rw [if_pos q2, e61_93]; exact stop (by unfold cdg; simp [q2])
        · have hd : cdg (tpC h k) = true := by unfold cdg; simp [q1, q2]
          rw [if_neg q2, e61_51, if_pos (F_a4 w'), if_pos (F_a4 w'), if_pos (F_a4 w'), r0', r2', if_pos c1, if_pos c2, ec, Cl_eq _ (min245 d _ _), if_pos (W_a4 w')]
          have ew : True → w32 (w32 (ld h1 4 5 * 10) + w32 (tpC h k - 48)) = ld h1 4 5 * 10 + (tpC h k - 48) := fun _ => by unfold w32; omega
          rw [ew trivial]
          generalize hv : imin 100000 (ld h1 4 5 * 10 + (tpC h k - 48)) = nv
          have b0 : 0 ≤ nv ∧ nv ≤ 100000 := by rw [← hv]; unfold imin; split <;> omega
          have f2 := FrR_st f1 (j := 5) (by decide) nv
          have w2 := f2.1
          have f3 := FrR_st f2 (j := 2) (by decide) (k + 1)
          rw [e61_80, if_pos (F_a4 w2), if_pos (W_a4 w2), show ld (st h1 4 5 nv) 4 2 = k from (ld_st_ne (Or.inr (by decide))).trans r2', w1 r1 hkn, e61_90]
          have g : ∀ j, j ≠ 5 → j ≠ 2 → ld (st (st h1 4 5 nv) 4 2 (k + 1)) 4 j = ld h1 4 j := fun j e1 e2 => (ld_st_ne (Or.inr e2)).trans (ld_st_ne (Or.inr e1))
          have g5' : ld (st (st h1 4 5 nv) 4 2 (k + 1)) 4 5 = nv := (ld_st_ne (Or.inr (by decide))).trans (ld_st_eq _ _ _ _)
          have hb := lxr_b cdg (tpC h) m (k + 1)
          have := ih (k + 1) (imin 10000 (v * 10 + (tpC h k - 48))) (st (st h1 4 5 nv) 4 2 (k + 1)) f3 (RdC_fr r f3 (ld_st_eq _ _ _ _) (by omega)) (by omega) ((g 3 (by decide) (by decide)).trans g3) ((g 4 (by decide) (by decide)).trans g4) ((g 6 (by decide) (by decide)).trans g6) (by
            rw [g5', ← hv, ← g5]; unfold imin; split <;> split <;> split <;> (try split) <;> omega) (by rw [g5']; exact b0.1) (by rw [g5']; exact b0.2)
          rw [if_pos hd, show (lxr cdg (tpC h) m (k + 1) - k).toNat = (lxr cdg (tpC h) m (k + 1) - (k + 1)).toNat + 1 by omega]
          exact this
  obtain ⟨w, r0, r1, rn, r2, ri⟩ := id r
  have f1 := FrR_st (FrR_rf w) (j := 3) (by decide) (-4)
  have f2 := FrR_st f1 (j := 5) (by decide) 0
  rw [ce_61, e61_0, if_pos (W_a4 w), if_pos (W_a4 f1.1)]
  have g : ∀ j, j ≠ 5 → j ≠ 3 → ld (st (st h 4 3 (-4)) 4 5 0) 4 j = ld h 4 j := fun j e1 e2 => (ld_st_ne (Or.inr e1)).trans (ld_st_ne (Or.inr e2))
  exact key (n - i).toNat i 0 _ f2 (RdC_fr r f2 ((g 2 (by decide) (by decide)).trans r2) ri) (by omega) ((ld_st_ne (Or.inr (by decide))).trans (ld_st_eq _ _ _ _)) (g 4 (by decide) (by decide)) (g 6 (by decide) (by decide)) (by rw [ld_st_eq]; decide) (by rw [ld_st_eq]; decide) (by rw [ld_st_eq]; decide)
end RD
