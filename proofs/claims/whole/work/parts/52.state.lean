/-! layer 2: what the class asks of a text and a state -/
def TOK (T : Wd) : Prop := (0 ≤ T 0 0 ∧ T 0 0 ≤ 5) ∧ (0 ≤ T 1 0 ∧ T 1 0 ≤ 5) ∧ (0 ≤ T 2 0 ∧ T 2 0 ≤ 10) ∧ (0 ≤ T 3 0 ∧ T 3 0 ≤ 3) ∧
  (∀ p, 0 ≤ p → p < T 2 0 → (0 ≤ T 12 p ∧ T 12 p < T 1 0) ∧ (0 ≤ T 13 p ∧ T 13 p < T 0 0) ∧ 0 ≤ T 14 p ∧ T 14 p < 100) ∧
  (∀ s, 0 ≤ s → s < T 1 0 → (T 10 s = -1 ∨ (0 ≤ T 10 s ∧ T 10 s < T 1 0 ∧ T 10 s ≠ s)) ∧ (T 11 s = -1 ∨ (0 ≤ T 11 s ∧ T 11 s < T 1 0 ∧ T 11 s ≠ s))) ∧
  (∀ f, 0 ≤ f → f < T 0 0 → (1 ≤ T 5 f ∧ T 5 f ≤ 99) ∧ 1 ≤ T 6 f ∧ T 6 f ≤ 9)
section ST
variable {h : Hp} {s b : Int}
theorem tC_4 {i : Int} (hi : 0 ≤ i ∧ i < ld h b 0) : ld h (b + 1) i = tC h b 4 i := (rng_in hi).symm
theorem tC_5 {i : Int} (hi : 0 ≤ i ∧ i < ld h b 0) : ld h (b + 2) i = tC h b 5 i := (rng_in hi).symm
theorem tC_6 {i : Int} (hi : 0 ≤ i ∧ i < ld h b 0) : ld h (b + 3) i = tC h b 6 i := (rng_in hi).symm
theorem tC_7 {i : Int} (hi : 0 ≤ i ∧ i < ld h b 4) : ld h (b + 4) i = tC h b 7 i := (rng_in hi).symm
theorem tC_8 {i : Int} (hi : 0 ≤ i ∧ i < ld h b 4) : ld h (b + 5) i = tC h b 8 i := (rng_in hi).symm
theorem tC_9 {i : Int} (hi : 0 ≤ i ∧ i < ld h b 4) : ld h (b + 6) i = tC h b 9 i := (rng_in hi).symm
theorem tC_10 {i : Int} (hi : 0 ≤ i ∧ i < ld h b 4) : ld h (b + 7) i = tC h b 10 i := (rng_in hi).symm
theorem tC_11 {i : Int} (hi : 0 ≤ i ∧ i < ld h b 4) : ld h (b + 8) i = tC h b 11 i := (rng_in hi).symm
theorem tC_12 {i : Int} (hi : 0 ≤ i ∧ i < ld h b 11) : ld h (b + 9) i = tC h b 12 i := (rng_in hi).symm
theorem tC_13 {i : Int} (hi : 0 ≤ i ∧ i < ld h b 11) : ld h (b + 10) i = tC h b 13 i := (rng_in hi).symm
theorem tC_14 {i : Int} (hi : 0 ≤ i ∧ i < ld h b 11) : ld h (b + 11) i = tC h b 14 i := (rng_in hi).symm
theorem sC_6 {i ns np : Int} (hi : 0 ≤ i ∧ i < ns) : ld h (s + 1) i = sC h s ns np 6 i := (rng_in hi).symm
theorem sC_7 {i ns np : Int} (hi : 0 ≤ i ∧ i < np) : ld h (s + 2) i = sC h s ns np 7 i := (rng_in hi).symm
theorem sC_8 {i ns np : Int} (hi : 0 ≤ i ∧ i < np) : ld h (s + 3) i = sC h s ns np 8 i := (rng_in hi).symm
theorem sC_9 {i ns np : Int} (hi : 0 ≤ i ∧ i < np) : ld h (s + 4) i = sC h s ns np 9 i := (rng_in hi).symm
/-- the state's view, by its book's numbers -/
abbrev sV (h : Hp) (s b : Int) : Wd := sC h s (ld h b 4) (ld h b 11)
theorem kq_66 (w : WF h) (hb : b ∈ BKL) (d : Nat) (i : Int) : C d 66 [(2, b), (0, i)] h = some ((0, bI (qFea (tC h b) i)), h) := by
  rw [ce_66, e66_0]
  simp only [bfF0 w hb, if_true, e66_12, e66_16, e66_17, true_or, or_true, yb, yb0]
  rfl
theorem kq_67 (w : WF h) (hb : b ∈ BKL) (d : Nat) (i : Int) : C d 67 [(2, b), (0, i)] h = some ((0, bI (qSit (tC h b) i)), h) := by
  rw [ce_67, e67_0]
  simp only [bfF0 w hb, if_true, e67_12, e67_16, e67_17, true_or, or_true, yb, yb0]
  rfl
theorem kq_68 (w : WF h) (hb : b ∈ BKL) (d : Nat) (i : Int) : C d 68 [(2, b), (0, i)] h = some ((0, bI (qPie (tC h b) i)), h) := by
  rw [ce_68, e68_0]
  simp only [bfF0 w hb, if_true, e68_12, e68_16, e68_17, true_or, or_true, yb, yb0]
  rfl
/-- a piece's place and its feature's are in bounds -/
theorem pie_b (hT : TOK (tC h b)) {p : Int} (hp : 0 ≤ p ∧ p < ld h b 11) : (0 ≤ p ∧ p < 10) ∧ (0 ≤ tC h b 13 p ∧ tC h b 13 p < ld h b 0 ∧ tC h b 13 p < 5) ∧ (0 ≤ tC h b 12 p ∧ tC h b 12 p < ld h b 4 ∧ tC h b 12 p < 5) ∧ 0 ≤ tC h b 14 p ∧ tC h b 14 p < 100 := by
  have h0 : 0 ≤ ld h b 0 ∧ ld h b 0 ≤ 5 := hT.1
  have h1 : 0 ≤ ld h b 4 ∧ ld h b 4 ≤ 5 := hT.2.1
  have h2 : 0 ≤ ld h b 11 ∧ ld h b 11 ≤ 10 := hT.2.2.1
  obtain ⟨⟨a1, a2⟩, ⟨a3, a4⟩, a5, a6⟩ := hT.2.2.2.2.1 p hp.1 hp.2
  have a2 : tC h b 12 p < ld h b 4 := a2
  have a4 : tC h b 13 p < ld h b 0 := a4
  omega
theorem kq_77 (w : WF h) (hb : b ∈ BKL) (hT : TOK (tC h b)) (d : Nat) {p : Int} (hp : 0 ≤ p ∧ p < ld h b 11) : C (d + 1) 77 [(2, b), (0, p)] h = some ((0, tBase (tC h b) p), h) := by
  obtain ⟨⟨q1, q2⟩, ⟨q3, q4, q5⟩, -⟩ := pie_b hT hp
  have a1 : qPie (tC h b) p = true := qPie_iff.mpr hp
  have a2 : qFea (tC h b) (tC h b 13 p) = true := qFea_iff.mpr ⟨q3, q4⟩
  rw [ce_77, e77_0, if_pos (bfF0 w hb), Cl_eq _ (kq_68 w hb d p), a1, if_neg (by decide), if_pos (bfF0 w hb), bfP13 w hb, if_pos (bfF10 w hb), bfL10 w hb, if_pos ⟨q1, q2⟩, tC_13 hp,
    e77_18, if_pos (bfF0 w hb), Cl_eq _ (kq_66 w hb d _), a2, if_neg (by decide), e77_27, if_pos (bfF0 w hb), bfP2 w hb, if_pos (bfF2 w hb), bfL2 w hb, if_pos ⟨q3, q5⟩, e77_37, tC_5 ⟨q3, q4⟩]
  rfl
theorem kq_78 (w : WF h) (hb : b ∈ BKL) (hT : TOK (tC h b)) (d : Nat) {p : Int} (hp : 0 ≤ p ∧ p < ld h b 11) : C (d + 1) 78 [(2, b), (0, p)] h = some ((0, tSize (tC h b) p), h) := by
  obtain ⟨⟨q1, q2⟩, ⟨q3, q4, q5⟩, -⟩ := pie_b hT hp
  have a1 : qPie (tC h b) p = true := qPie_iff.mpr hp
  have a2 : qFea (tC h b) (tC h b 13 p) = true := qFea_iff.mpr ⟨q3, q4⟩
  rw [ce_78, e78_0, if_pos (bfF0 w hb), Cl_eq _ (kq_68 w hb d p), a1, if_neg (by decide), if_pos (bfF0 w hb), bfP13 w hb, if_pos (bfF10 w hb), bfL10 w hb, if_pos ⟨q1, q2⟩, tC_13 hp,
    e78_18, if_pos (bfF0 w hb), Cl_eq _ (kq_66 w hb d _), a2, if_neg (by decide), e78_27, if_pos (bfF0 w hb), bfP3 w hb, if_pos (bfF3 w hb), bfL3 w hb, if_pos ⟨q3, q5⟩, e78_37, tC_6 ⟨q3, q4⟩]
  rfl
theorem kq_87 (w : WF h) (hs : s ∈ STL) (d : Nat) (ns np i : Int) : C d 87 [(2, s), (0, i)] h = some ((0, bI (qLiv (sC h s ns np) i)), h) := by
  rw [ce_87, e87_0]
  simp only [sfF0 w hs, if_true, e87_11, e87_15, e87_16, true_or, or_true, yb]
  rfl
theorem kq_88 (w : WF h) (hs : s ∈ STL) (d : Nat) (ns np i : Int) : C d 88 [(2, s), (0, i)] h = some ((0, bI (qLap (sC h s ns np) i)), h) := by
  rw [ce_88, e88_0]
  simp only [sfF0 w hs, if_true, e88_11, e88_15, e88_16, true_or, or_true, nb]
  rfl
theorem kq_89 (w : WF h) (hs : s ∈ STL) (hb : b ∈ BKL) (e : ld h s 0 = b) (hT : TOK (tC h b)) (d : Nat) {p : Int} (hp : 0 ≤ p ∧ p < ld h b 11) : C (d + 2) 89 [(2, s), (0, p)] h = some ((0, bI (qDone (tC h b) (sV h s b) p)), h) := by
  obtain ⟨⟨q1, q2⟩, -⟩ := pie_b hT hp
  rw [ce_89, e89_0]
  simp only [sfF0 w hs, sfW0 w hs, sfF1 w hs, sfW1 w hs, sfL1 w hs, sfF2 w hs, sfW2 w hs, sfL2 w hs, sfF3 w hs, sfW3 w hs, sfL3 w hs, sfF4 w hs, sfW4 w hs, sfL4 w hs, sfF5 w hs, sfW5 w hs, sfL5 w hs, sfF6 w hs, sfW6 w hs, sfL6 w hs, sfF7 w hs, sfW7 w hs, sfL7 w hs, sfP6 w hs, sfP7 w hs, sfP8 w hs, sfP9 w hs, sfP11 w hs, sfP12 w hs, sfP13 w hs, e, bfF0 w hb, if_true, q1, q2, and_self, Cl_eq _ (kq_78 w hb hT d hp), e89_17, e89_21, e89_22, sC_8 (ns := ld h b 4) hp, true_or, or_true, nb]
  rfl
theorem kq_97 (w : WF h) (hs : s ∈ STL) (hb : b ∈ BKL) (e : ld h s 0 = b) (hT : TOK (tC h b)) (d : Nat) (x : Int) : C d 97 [(2, s), (0, x)] h = some ((0, sOwned (tC h b) (sV h s b) x), h) := by
  have h2 : 0 ≤ ld h b 11 ∧ ld h b 11 ≤ 10 := hT.2.2.1
  have key : ∀ (n : Nat) (a k : Int), 0 ≤ k → k + n = ld h b 11 → 0 ≤ a ∧ a ≤ k → V d 97 4 [(2, s), (0, x), (0, a), (0, k)] [] h = some ((0, cnf (fun p => decide (sV h s b 9 p = x)) n k a), h) := by
    intro n
    induction n with
    | zero =>
      intro a k hk hn ha
      rw [e97_4]
      simp only [sfF0 w hs, sfW0 w hs, sfF1 w hs, sfW1 w hs, sfL1 w hs, sfF2 w hs, sfW2 w hs, sfL2 w hs, sfF3 w hs, sfW3 w hs, sfL3 w hs, sfF4 w hs, sfW4 w hs, sfL4 w hs, sfF5 w hs, sfW5 w hs, sfL5 w hs, sfF6 w hs, sfW6 w hs, sfL6 w hs, sfF7 w hs, sfW7 w hs, sfL7 w hs, sfP6 w hs, sfP7 w hs, sfP8 w hs, sfP9 w hs, sfP11 w hs, sfP12 w hs, sfP13 w hs, e, bfF0 w hb, bfW0 w hb, bfF1 w hb, bfW1 w hb, bfL1 w hb, bfF2 w hb, bfW2 w hb, bfL2 w hb, bfF3 w hb, bfW3 w hb, bfL3 w hb, bfF4 w hb, bfW4 w hb, bfL4 w hb, bfF5 w hb, bfW5 w hb, bfL5 w hb, bfF6 w hb, bfW6 w hb, bfL6 w hb, bfF7 w hb, bfW7 w hb, bfL7 w hb, bfF8 w hb, bfW8 w hb, bfL8 w hb, bfF9 w hb, bfW9 w hb, bfL9 w hb, bfF10 w hb, bfW10 w hb, bfL10 w hb, bfF11 w hb, bfW11 w hb, bfL11 w hb, bfF12 w hb, bfW12 w hb, bfL12 w hb, bfF13 w hb, bfW13 w hb, bfL13 w hb, bfF14 w hb, bfW14 w hb, bfL14 w hb, bfF15 w hb, bfW15 w hb, bfL15 w hb, bfF16 w hb, bfW16 w hb, bfL16 w hb, bfF17 w hb, bfW17 w hb, bfL17 w hb, bfP1 w hb, bfP2 w hb, bfP3 w hb, bfP5 w hb, bfP6 w hb, bfP7 w hb, bfP9 w hb, bfP10 w hb, bfP12 w hb, bfP13 w hb, bfP14 w hb, bfP16 w hb, bfP18 w hb, bfP19 w hb, if_true, if_neg (show ¬ k < ld h b 11 by omega), e97_34]
      rfl
    | succ n ih =>
      intro a k hk hn ha
      have hkp : 0 ≤ k ∧ k < ld h b 11 := by omega
      have w1 : w32 (k + 1) = k + 1 := by unfold w32; omega
      have w2 : w32 (a + 1) = a + 1 := by unfold w32; omega
      rw [e97_4]
      simp only [sfF0 w hs, sfW0 w hs, sfF1 w hs, sfW1 w hs, sfL1 w hs, sfF2 w hs, sfW2 w hs, sfL2 w hs, sfF3 w hs, sfW3 w hs, sfL3 w hs, sfF4 w hs, sfW4 w hs, sfL4 w hs, sfF5 w hs, sfW5 w hs, sfL5 w hs, sfF6 w hs, sfW6 w hs, sfL6 w hs, sfF7 w hs, sfW7 w hs, sfL7 w hs, sfP6 w hs, sfP7 w hs, sfP8 w hs, sfP9 w hs, sfP11 w hs, sfP12 w hs, sfP13 w hs, e, bfF0 w hb, bfW0 w hb, bfF1 w hb, bfW1 w hb, bfL1 w hb, bfF2 w hb, bfW2 w hb, bfL2 w hb, bfF3 w hb, bfW3 w hb, bfL3 w hb, bfF4 w hb, bfW4 w hb, bfL4 w hb, bfF5 w hb, bfW5 w hb, bfL5 w hb, bfF6 w hb, bfW6 w hb, bfL6 w hb, bfF7 w hb, bfW7 w hb, bfL7 w hb, bfF8 w hb, bfW8 w hb, bfL8 w hb, bfF9 w hb, bfW9 w hb, bfL9 w hb, bfF10 w hb, bfW10 w hb, bfL10 w hb, bfF11 w hb, bfW11 w hb, bfL11 w hb, bfF12 w hb, bfW12 w hb, bfL12 w hb, bfF13 w hb, bfW13 w hb, bfL13 w hb, bfF14 w hb, bfW14 w hb, bfL14 w hb, bfF15 w hb, bfW15 w hb, bfL15 w hb, bfF16 w hb, bfW16 w hb, bfL16 w hb, bfF17 w hb, bfW17 w hb, bfL17 w hb, bfP1 w hb, bfP2 w hb, bfP3 w hb, bfP5 w hb, bfP6 w hb, bfP7 w hb, bfP9 w hb, bfP10 w hb, bfP12 w hb, bfP13 w hb, bfP14 w hb, bfP16 w hb, bfP18 w hb, bfP19 w hb, if_true, if_pos hkp.2, e97_15, hkp.1, (show k < 10 by omega), and_self, sC_9 (ns := ld h b 4) hkp, e97_25, e97_28, w1, w2]
      unfold cnf
      by_cases hx : sC h s (ld h b 4) (ld h b 11) 9 k = x
      · rw [if_pos hx, if_pos (by simp only [decide_eq_true_eq]; exact hx)]
        exact ih (a + 1) (k + 1) (by omega) (by omega) (by omega)
      · rw [if_neg hx, if_neg (by simp only [decide_eq_true_eq]; exact hx)]
        exact ih a (k + 1) (by omega) (by omega) (by omega)
  rw [ce_97, e97_0, key (ld h b 11).toNat 0 0 (by omega) (by omega) (by omega)]
  rfl
end ST
