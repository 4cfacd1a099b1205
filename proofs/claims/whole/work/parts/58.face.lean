/-! layer 2: loops, and more that a text and a state are asked -/
section LP
variable {h : Hp}
abbrev Rt := Option ((Nat × Int) × Hp)
theorem lpF {G : Int → Rt} {f : Int → Bool} {N : Int} (hN : 0 ≤ N) (he : G N = some ((0, -1), h)) (hs : ∀ k, 0 ≤ k → k < N → G k = if f k = true then some ((0, k), h) else G (k + 1)) : G 0 = some ((0, fnd f N.toNat 0), h) := by
  have key : ∀ (n : Nat) (k : Int), 0 ≤ k → k + n = N → G k = some ((0, fnd f n k), h) := by
    intro n
    induction n with
    | zero => intro k hk hn; rw [show k = N by omega, he]; rfl
    | succ n ih =>
      intro k hk hn
      rw [hs k hk (by omega)]
      unfold fnd
      split
      · rfl
      · exact ih (k + 1) (by omega) (by omega)
  exact key N.toNat 0 (by omega) (by omega)
def anyf (f : Int → Bool) : Nat → Int → Bool
  | 0, _ => false
  | n + 1, k => f k || anyf f n (k + 1)
theorem lpA {G : Int → Rt} {f : Int → Bool} {N : Int} (hN : 0 ≤ N) (he : G N = some ((0, 0), h)) (hs : ∀ k, 0 ≤ k → k < N → G k = if f k = true then some ((0, 1), h) else G (k + 1)) : G 0 = some ((0, bI (anyf f N.toNat 0)), h) := by
  have key : ∀ (n : Nat) (k : Int), 0 ≤ k → k + n = N → G k = some ((0, bI (anyf f n k)), h) := by
    intro n
    induction n with
    | zero => intro k hk hn; rw [show k = N by omega, he]; rfl
    | succ n ih =>
      intro k hk hn
      rw [hs k hk (by omega)]
      unfold anyf
      split
      · rename_i q; rw [q]; rfl
      · rename_i q; rw [Bool.eq_false_iff.mpr q]; exact ih (k + 1) (by omega) (by omega)
  exact key N.toNat 0 (by omega) (by omega)
def fld (g : Int → Int → Int) : Nat → Int → Int → Int
  | 0, _, a => a
  | n + 1, k, a => fld g n (k + 1) (g k a)
theorem lpD {G : Int → Int → Rt} {g : Int → Int → Int} {N : Int} (hN : 0 ≤ N) (he : ∀ a, G N a = some ((0, a), h)) (hs : ∀ k a, 0 ≤ k → k < N → G k a = G (k + 1) (g k a)) (a : Int) : G 0 a = some ((0, fld g N.toNat 0 a), h) := by
  have key : ∀ (n : Nat) (k a : Int), 0 ≤ k → k + n = N → G k a = some ((0, fld g n k a), h) := by
    intro n
    induction n with
    | zero => intro k a hk hn; rw [show k = N by omega, he]; rfl
    | succ n ih =>
      intro k a hk hn
      rw [hs k a hk (by omega)]
      exact ih (k + 1) (g k a) (by omega) (by omega)
  exact key N.toNat 0 a (by omega) (by omega)
theorem lpC {G : Int → Int → Rt} {f : Int → Bool} {N : Int} (hN : 0 ≤ N) (he : ∀ a, G N a = some ((0, a), h)) (hs : ∀ k a, 0 ≤ k → k < N → 0 ≤ a → a ≤ k → G k a = G (k + 1) (if f k = true then a + 1 else a)) : G 0 0 = some ((0, cnf f N.toNat 0 0), h) := by
  have key : ∀ (n : Nat) (k a : Int), 0 ≤ k → 0 ≤ a → a ≤ k → k + n = N → G k a = some ((0, cnf f n k a), h) := by
    intro n
    induction n with
    | zero => intro k a hk h1 h2 hn; rw [show k = N by omega, he]; rfl
    | succ n ih =>
      intro k a hk h1 h2 hn
      rw [hs k a hk (by omega) h1 h2]
      exact ih (k + 1) _ (by omega) (by split <;> omega) (by split <;> omega) (by omega)
  exact key N.toNat 0 0 (by omega) (by decide) (by decide) (by omega)
theorem fld_ext {g g' : Int → Int → Int} : ∀ (n : Nat) (k a : Int), (∀ i b, k ≤ i → i < k + n → g i b = g' i b) → fld g n k a = fld g' n k a
  | 0, _, _, _ => rfl
  | n + 1, k, a, e => by
    unfold fld
    rw [e k a (by omega) (by omega)]
    exact fld_ext n (k + 1) _ (fun i b h1 h2 => e i b (by omega) (by omega))
theorem wk {k N : Int} (h0 : 0 ≤ k) (h1 : k < N) (hN : N ≤ 2000000) : w32 (k + 1) = k + 1 := by unfold w32; omega
end LP
/-! what is asked -/
def qHail (T : Wd) (x : Int) : Bool := !decide (x < 0) && (decide (x < 100) && !decide (T 18 x = 0))
def tFeat (T : Wd) (x : Int) : Int := fnd (fun k => decide (T 4 k = x)) (T 0 0).toNat 0
def tSitr (T : Wd) (x : Int) : Int := fnd (fun k => decide (T 7 k = x)) (T 1 0).toNat 0
def tPiec (T : Wd) (x y : Int) : Int := fnd (fun k => decide (T 12 k = x) && decide (T 13 k = y)) (T 2 0).toNat 0
def tKnots (T : Wd) : Int := w32 (w32 (w32 (0 + T 19 0) + T 20 0) + T 21 0)
def tShr (T : Wd) (one other f : Int) : Bool := anyf (fun k => decide (T 17 k = f) && ((decide (T 15 k = one) && decide (T 16 k = other)) || (decide (T 15 k = other) && decide (T 16 k = one)))) (T 3 0).toNat 0
def sHas (T S : Wd) (x f : Int) : Bool := anyf (fun k => decide (S 9 k = x) && decide (T 13 k = f)) (T 2 0).toNat 0
def sFace (T S : Wd) (x : Int) : Int := fld (fun k a => if qDone T S k && (decide (T 12 k = x) || tShr T (T 12 k) x (T 13 k)) then or32 a (shl32 1 (T 13 k)) else a) (T 2 0).toNat 0 0
def hrf (T S : Wd) : Nat → Int → Int
  | 0, _ => -2
  | n + 1, x => if qSit T x = true then (if qSit T (T 11 x) = true ∧ qLiv S (T 11 x) = true then T 11 x else hrf T S n (T 11 x)) else -2
def sHeir (T S : Wd) (x : Int) : Int := hrf T S 5 x
section FA
variable {h : Hp} {s b : Int}
theorem kq_69 (w : WF h) (hb : b ∈ BKL) (d : Nat) (x : Int) : C d 69 [(2, b), (0, x)] h = some ((0, bI (qHail (tC h b) x)), h) := by
  rw [ce_69, e69_0]
  unfold qHail
  by_cases h0 : x < 0
  · rw [if_pos h0, e69_23, e69_24]; simp [h0, bI]
  · rw [if_neg h0]
    by_cases h1 : x < 100
    · rw [if_pos h1, e69_10]
      have e : ld h (b + 16) x = tC h b 18 x := (rng_in ⟨by omega, h1⟩).symm
      simp only [bfF0 w hb, bfW0 w hb, bfF1 w hb, bfW1 w hb, bfL1 w hb, bfF2 w hb, bfW2 w hb, bfL2 w hb, bfF3 w hb, bfW3 w hb, bfL3 w hb, bfF4 w hb, bfW4 w hb, bfL4 w hb, bfF5 w hb, bfW5 w hb, bfL5 w hb, bfF6 w hb, bfW6 w hb, bfL6 w hb, bfF7 w hb, bfW7 w hb, bfL7 w hb, bfF8 w hb, bfW8 w hb, bfL8 w hb, bfF9 w hb, bfW9 w hb, bfL9 w hb, bfF10 w hb, bfW10 w hb, bfL10 w hb, bfF11 w hb, bfW11 w hb, bfL11 w hb, bfF12 w hb, bfW12 w hb, bfL12 w hb, bfF13 w hb, bfW13 w hb, bfL13 w hb, bfF14 w hb, bfW14 w hb, bfL14 w hb, bfF15 w hb, bfW15 w hb, bfL15 w hb, bfF16 w hb, bfW16 w hb, bfL16 w hb, bfF17 w hb, bfW17 w hb, bfL17 w hb, bfP1 w hb, bfP2 w hb, bfP3 w hb, bfP5 w hb, bfP6 w hb, bfP7 w hb, bfP9 w hb, bfP10 w hb, bfP12 w hb, bfP13 w hb, bfP14 w hb, bfP16 w hb, bfP18 w hb, bfP19 w hb, bfP18 w hb, if_true, show (0 ≤ x ∧ x < 100) from ⟨by omega, h1⟩, e69_19, e69_23, e69_24, true_or, or_true, e]
      by_cases h2 : tC h b 18 x = 0
      · simp [h2, bI]
      · simp [h0, h1, h2, bI]
    · rw [if_neg h1, e69_23, e69_24]; simp [h1, bI]
theorem kq_70 (w : WF h) (hb : b ∈ BKL) (hT : TOK (tC h b)) (d : Nat) (x : Int) : C d 70 [(2, b), (0, x)] h = some ((0, tFeat (tC h b) x), h) := by
  have hN : 0 ≤ ld h b 0 ∧ ld h b 0 ≤ 5 := hT.1
  rw [ce_70, e70_0]
  refine lpF (N := ld h b 0) (G := fun k => V d 70 2 [(2, b), (0, x), (0, k)] [] h) hN.1 ?_ ?_
  · show V d 70 2 _ _ _ = _
    rw [e70_2]; simp only [bfF0 w hb, bfW0 w hb, bfF1 w hb, bfW1 w hb, bfL1 w hb, bfF2 w hb, bfW2 w hb, bfL2 w hb, bfF3 w hb, bfW3 w hb, bfL3 w hb, bfF4 w hb, bfW4 w hb, bfL4 w hb, bfF5 w hb, bfW5 w hb, bfL5 w hb, bfF6 w hb, bfW6 w hb, bfL6 w hb, bfF7 w hb, bfW7 w hb, bfL7 w hb, bfF8 w hb, bfW8 w hb, bfL8 w hb, bfF9 w hb, bfW9 w hb, bfL9 w hb, bfF10 w hb, bfW10 w hb, bfL10 w hb, bfF11 w hb, bfW11 w hb, bfL11 w hb, bfF12 w hb, bfW12 w hb, bfL12 w hb, bfF13 w hb, bfW13 w hb, bfL13 w hb, bfF14 w hb, bfW14 w hb, bfL14 w hb, bfF15 w hb, bfW15 w hb, bfL15 w hb, bfF16 w hb, bfW16 w hb, bfL16 w hb, bfF17 w hb, bfW17 w hb, bfL17 w hb, bfP1 w hb, bfP2 w hb, bfP3 w hb, bfP5 w hb, bfP6 w hb, bfP7 w hb, bfP9 w hb, bfP10 w hb, bfP12 w hb, bfP13 w hb, bfP14 w hb, bfP16 w hb, bfP18 w hb, bfP19 w hb, if_true, Int.lt_irrefl, if_false, e70_28]
  · intro k h0 h1
    show V d 70 2 _ _ _ = _
    rw [e70_2]; simp only [bfF0 w hb, bfW0 w hb, bfF1 w hb, bfW1 w hb, bfL1 w hb, bfF2 w hb, bfW2 w hb, bfL2 w hb, bfF3 w hb, bfW3 w hb, bfL3 w hb, bfF4 w hb, bfW4 w hb, bfL4 w hb, bfF5 w hb, bfW5 w hb, bfL5 w hb, bfF6 w hb, bfW6 w hb, bfL6 w hb, bfF7 w hb, bfW7 w hb, bfL7 w hb, bfF8 w hb, bfW8 w hb, bfL8 w hb, bfF9 w hb, bfW9 w hb, bfL9 w hb, bfF10 w hb, bfW10 w hb, bfL10 w hb, bfF11 w hb, bfW11 w hb, bfL11 w hb, bfF12 w hb, bfW12 w hb, bfL12 w hb, bfF13 w hb, bfW13 w hb, bfL13 w hb, bfF14 w hb, bfW14 w hb, bfL14 w hb, bfF15 w hb, bfW15 w hb, bfL15 w hb, bfF16 w hb, bfW16 w hb, bfL16 w hb, bfF17 w hb, bfW17 w hb, bfL17 w hb, bfP1 w hb, bfP2 w hb, bfP3 w hb, bfP5 w hb, bfP6 w hb, bfP7 w hb, bfP9 w hb, bfP10 w hb, bfP12 w hb, bfP13 w hb, bfP14 w hb, bfP16 w hb, bfP18 w hb, bfP19 w hb, if_true, h0, h1, show k < 5 by omega, and_self, e70_20, e70_22, wk h0 h1 (by omega), tC_4 ⟨h0, h1⟩, decide_eq_true_eq]
theorem kq_71 (w : WF h) (hb : b ∈ BKL) (hT : TOK (tC h b)) (d : Nat) (x : Int) : C d 71 [(2, b), (0, x)] h = some ((0, tSitr (tC h b) x), h) := by
  have hN : 0 ≤ ld h b 4 ∧ ld h b 4 ≤ 5 := hT.2.1
  rw [ce_71, e71_0]
  refine lpF (N := ld h b 4) (G := fun k => V d 71 2 [(2, b), (0, x), (0, k)] [] h) hN.1 ?_ ?_
  · show V d 71 2 _ _ _ = _
    rw [e71_2]; simp only [bfF0 w hb, bfW0 w hb, bfF1 w hb, bfW1 w hb, bfL1 w hb, bfF2 w hb, bfW2 w hb, bfL2 w hb, bfF3 w hb, bfW3 w hb, bfL3 w hb, bfF4 w hb, bfW4 w hb, bfL4 w hb, bfF5 w hb, bfW5 w hb, bfL5 w hb, bfF6 w hb, bfW6 w hb, bfL6 w hb, bfF7 w hb, bfW7 w hb, bfL7 w hb, bfF8 w hb, bfW8 w hb, bfL8 w hb, bfF9 w hb, bfW9 w hb, bfL9 w hb, bfF10 w hb, bfW10 w hb, bfL10 w hb, bfF11 w hb, bfW11 w hb, bfL11 w hb, bfF12 w hb, bfW12 w hb, bfL12 w hb, bfF13 w hb, bfW13 w hb, bfL13 w hb, bfF14 w hb, bfW14 w hb, bfL14 w hb, bfF15 w hb, bfW15 w hb, bfL15 w hb, bfF16 w hb, bfW16 w hb, bfL16 w hb, bfF17 w hb, bfW17 w hb, bfL17 w hb, bfP1 w hb, bfP2 w hb, bfP3 w hb, bfP5 w hb, bfP6 w hb, bfP7 w hb, bfP9 w hb, bfP10 w hb, bfP12 w hb, bfP13 w hb, bfP14 w hb, bfP16 w hb, bfP18 w hb, bfP19 w hb, if_true, Int.lt_irrefl, if_false, e71_28]
  · intro k h0 h1
    show V d 71 2 _ _ _ = _
    rw [e71_2]; simp only [bfF0 w hb, bfW0 w hb, bfF1 w hb, bfW1 w hb, bfL1 w hb, bfF2 w hb, bfW2 w hb, bfL2 w hb, bfF3 w hb, bfW3 w hb, bfL3 w hb, bfF4 w hb, bfW4 w hb, bfL4 w hb, bfF5 w hb, bfW5 w hb, bfL5 w hb, bfF6 w hb, bfW6 w hb, bfL6 w hb, bfF7 w hb, bfW7 w hb, bfL7 w hb, bfF8 w hb, bfW8 w hb, bfL8 w hb, bfF9 w hb, bfW9 w hb, bfL9 w hb, bfF10 w hb, bfW10 w hb, bfL10 w hb, bfF11 w hb, bfW11 w hb, bfL11 w hb, bfF12 w hb, bfW12 w hb, bfL12 w hb, bfF13 w hb, bfW13 w hb, bfL13 w hb, bfF14 w hb, bfW14 w hb, bfL14 w hb, bfF15 w hb, bfW15 w hb, bfL15 w hb, bfF16 w hb, bfW16 w hb, bfL16 w hb, bfF17 w hb, bfW17 w hb, bfL17 w hb, bfP1 w hb, bfP2 w hb, bfP3 w hb, bfP5 w hb, bfP6 w hb, bfP7 w hb, bfP9 w hb, bfP10 w hb, bfP12 w hb, bfP13 w hb, bfP14 w hb, bfP16 w hb, bfP18 w hb, bfP19 w hb, if_true, h0, h1, show k < 5 by omega, and_self, e71_20, e71_22, wk h0 h1 (by omega), tC_7 ⟨h0, h1⟩, decide_eq_true_eq]
theorem kq_72 (w : WF h) (hb : b ∈ BKL) (hT : TOK (tC h b)) (d : Nat) (x y : Int) : C d 72 [(2, b), (0, x), (0, y)] h = some ((0, tPiec (tC h b) x y), h) := by
  have hN : 0 ≤ ld h b 11 ∧ ld h b 11 ≤ 10 := hT.2.2.1
  rw [ce_72, e72_0]
  refine lpF (N := ld h b 11) (G := fun k => V d 72 2 [(2, b), (0, x), (0, y), (0, k)] [] h) hN.1 ?_ ?_
  · show V d 72 2 _ _ _ = _
    rw [e72_2]; simp only [bfF0 w hb, bfW0 w hb, bfF1 w hb, bfW1 w hb, bfL1 w hb, bfF2 w hb, bfW2 w hb, bfL2 w hb, bfF3 w hb, bfW3 w hb, bfL3 w hb, bfF4 w hb, bfW4 w hb, bfL4 w hb, bfF5 w hb, bfW5 w hb, bfL5 w hb, bfF6 w hb, bfW6 w hb, bfL6 w hb, bfF7 w hb, bfW7 w hb, bfL7 w hb, bfF8 w hb, bfW8 w hb, bfL8 w hb, bfF9 w hb, bfW9 w hb, bfL9 w hb, bfF10 w hb, bfW10 w hb, bfL10 w hb, bfF11 w hb, bfW11 w hb, bfL11 w hb, bfF12 w hb, bfW12 w hb, bfL12 w hb, bfF13 w hb, bfW13 w hb, bfL13 w hb, bfF14 w hb, bfW14 w hb, bfL14 w hb, bfF15 w hb, bfW15 w hb, bfL15 w hb, bfF16 w hb, bfW16 w hb, bfL16 w hb, bfF17 w hb, bfW17 w hb, bfL17 w hb, bfP1 w hb, bfP2 w hb, bfP3 w hb, bfP5 w hb, bfP6 w hb, bfP7 w hb, bfP9 w hb, bfP10 w hb, bfP12 w hb, bfP13 w hb, bfP14 w hb, bfP16 w hb, bfP18 w hb, bfP19 w hb, if_true, Int.lt_irrefl, if_false, e72_38]
  · intro k h0 h1
    show V d 72 2 _ _ _ = _
    rw [e72_2]; simp only [bfF0 w hb, bfW0 w hb, bfF1 w hb, bfW1 w hb, bfL1 w hb, bfF2 w hb, bfW2 w hb, bfL2 w hb, bfF3 w hb, bfW3 w hb, bfL3 w hb, bfF4 w hb, bfW4 w hb, bfL4 w hb, bfF5 w hb, bfW5 w hb, bfL5 w hb, bfF6 w hb, bfW6 w hb, bfL6 w hb, bfF7 w hb, bfW7 w hb, bfL7 w hb, bfF8 w hb, bfW8 w hb, bfL8 w hb, bfF9 w hb, bfW9 w hb, bfL9 w hb, bfF10 w hb, bfW10 w hb, bfL10 w hb, bfF11 w hb, bfW11 w hb, bfL11 w hb, bfF12 w hb, bfW12 w hb, bfL12 w hb, bfF13 w hb, bfW13 w hb, bfL13 w hb, bfF14 w hb, bfW14 w hb, bfL14 w hb, bfF15 w hb, bfW15 w hb, bfL15 w hb, bfF16 w hb, bfW16 w hb, bfL16 w hb, bfF17 w hb, bfW17 w hb, bfL17 w hb, bfP1 w hb, bfP2 w hb, bfP3 w hb, bfP5 w hb, bfP6 w hb, bfP7 w hb, bfP9 w hb, bfP10 w hb, bfP12 w hb, bfP13 w hb, bfP14 w hb, bfP16 w hb, bfP18 w hb, bfP19 w hb, if_true, h0, h1, show k < 10 by omega, and_self, e72_20, e72_30, e72_32, wk h0 h1 (by omega), tC_12 ⟨h0, h1⟩, tC_13 ⟨h0, h1⟩, Bool.and_eq_true, decide_eq_true_eq]
    by_cases q1 : tC h b 12 k = x <;> by_cases q2 : tC h b 13 k = y <;> simp [q1, q2]
theorem kq_79 (w : WF h) (hb : b ∈ BKL) (d : Nat) : C d 79 [(2, b)] h = some ((0, tKnots (tC h b)), h) := by
  have l0 : b + 18 ∈ LWL := by
    have := of_decide_eq_true (List.all_eq_true.mp (List.all_eq_true.mp lwl_b b hb) 0 (by decide))
    rw [show b + 18 + 4 * 0 = b + 18 by omega] at this; exact this
  have l1 : b + 22 ∈ LWL := by
    have := of_decide_eq_true (List.all_eq_true.mp (List.all_eq_true.mp lwl_b b hb) 1 (by decide))
    rw [show b + 18 + 4 * 1 = b + 22 by omega] at this; exact this
  have l2 : b + 26 ∈ LWL := by
    have := of_decide_eq_true (List.all_eq_true.mp (List.all_eq_true.mp lwl_b b hb) 2 (by decide))
    rw [show b + 18 + 4 * 2 = b + 26 by omega] at this; exact this
  rw [ce_79, e79_0]
  iterate 3 (rw [e79_4]; simp only [bfF0 w hb, bfW0 w hb, bfF1 w hb, bfW1 w hb, bfL1 w hb, bfF2 w hb, bfW2 w hb, bfL2 w hb, bfF3 w hb, bfW3 w hb, bfL3 w hb, bfF4 w hb, bfW4 w hb, bfL4 w hb, bfF5 w hb, bfW5 w hb, bfL5 w hb, bfF6 w hb, bfW6 w hb, bfL6 w hb, bfF7 w hb, bfW7 w hb, bfL7 w hb, bfF8 w hb, bfW8 w hb, bfL8 w hb, bfF9 w hb, bfW9 w hb, bfL9 w hb, bfF10 w hb, bfW10 w hb, bfL10 w hb, bfF11 w hb, bfW11 w hb, bfL11 w hb, bfF12 w hb, bfW12 w hb, bfL12 w hb, bfF13 w hb, bfW13 w hb, bfL13 w hb, bfF14 w hb, bfW14 w hb, bfL14 w hb, bfF15 w hb, bfW15 w hb, bfL15 w hb, bfF16 w hb, bfW16 w hb, bfL16 w hb, bfF17 w hb, bfW17 w hb, bfL17 w hb, bfP1 w hb, bfP2 w hb, bfP3 w hb, bfP5 w hb, bfP6 w hb, bfP7 w hb, bfP9 w hb, bfP10 w hb, bfP12 w hb, bfP13 w hb, bfP14 w hb, bfP16 w hb, bfP18 w hb, bfP19 w hb, bfP19 w hb, if_true, Int.reduceLT, Int.reduceLE, and_self, bfP0_17 w hb, bfP1_17 w hb, bfP2_17 w hb, lfF0 w l0, lfF0 w l1, lfF0 w l2, e79_21, show w32 (0 + 1) = 1 from rfl, show w32 (1 + 1) = 2 from rfl, show w32 (2 + 1) = 3 from rfl])
  rw [e79_4, if_neg (by decide), e79_27]
  rfl
theorem kq_98 (c : CK h s b) (d : Nat) (x f : Int) : C d 98 [(2, s), (0, x), (0, f)] h = some ((0, bI (sHas (tC h b) (sV h s b) x f)), h) := by
  obtain ⟨w, hs, hb, e, hT, hCB, hTi, hSi⟩ := id c
  have hN : 0 ≤ ld h b 11 ∧ ld h b 11 ≤ 10 := hT.2.2.1
  rw [ce_98, e98_0]
  refine lpA (N := ld h b 11) (G := fun k => V d 98 2 [(2, s), (0, x), (0, f), (0, k)] [] h) hN.1 ?_ ?_
  · show V d 98 2 _ _ _ = _
    rw [e98_2]; simp only [sfF0 w hs, sfW0 w hs, sfF1 w hs, sfW1 w hs, sfL1 w hs, sfF2 w hs, sfW2 w hs, sfL2 w hs, sfF3 w hs, sfW3 w hs, sfL3 w hs, sfF4 w hs, sfW4 w hs, sfL4 w hs, sfF5 w hs, sfW5 w hs, sfL5 w hs, sfF6 w hs, sfW6 w hs, sfL6 w hs, sfF7 w hs, sfW7 w hs, sfL7 w hs, sfP6 w hs, sfP7 w hs, sfP8 w hs, sfP9 w hs, sfP11 w hs, sfP12 w hs, sfP13 w hs, e, bfF0 w hb, bfW0 w hb, bfF1 w hb, bfW1 w hb, bfL1 w hb, bfF2 w hb, bfW2 w hb, bfL2 w hb, bfF3 w hb, bfW3 w hb, bfL3 w hb, bfF4 w hb, bfW4 w hb, bfL4 w hb, bfF5 w hb, bfW5 w hb, bfL5 w hb, bfF6 w hb, bfW6 w hb, bfL6 w hb, bfF7 w hb, bfW7 w hb, bfL7 w hb, bfF8 w hb, bfW8 w hb, bfL8 w hb, bfF9 w hb, bfW9 w hb, bfL9 w hb, bfF10 w hb, bfW10 w hb, bfL10 w hb, bfF11 w hb, bfW11 w hb, bfL11 w hb, bfF12 w hb, bfW12 w hb, bfL12 w hb, bfF13 w hb, bfW13 w hb, bfL13 w hb, bfF14 w hb, bfW14 w hb, bfL14 w hb, bfF15 w hb, bfW15 w hb, bfL15 w hb, bfF16 w hb, bfW16 w hb, bfL16 w hb, bfF17 w hb, bfW17 w hb, bfL17 w hb, bfP1 w hb, bfP2 w hb, bfP3 w hb, bfP5 w hb, bfP6 w hb, bfP7 w hb, bfP9 w hb, bfP10 w hb, bfP12 w hb, bfP13 w hb, bfP14 w hb, bfP16 w hb, bfP18 w hb, bfP19 w hb, if_true, Int.lt_irrefl, if_false, e98_44, true_or]
  · intro k h0 h1
    show V d 98 2 _ _ _ = _
    rw [e98_2]; simp only [sfF0 w hs, sfW0 w hs, sfF1 w hs, sfW1 w hs, sfL1 w hs, sfF2 w hs, sfW2 w hs, sfL2 w hs, sfF3 w hs, sfW3 w hs, sfL3 w hs, sfF4 w hs, sfW4 w hs, sfL4 w hs, sfF5 w hs, sfW5 w hs, sfL5 w hs, sfF6 w hs, sfW6 w hs, sfL6 w hs, sfF7 w hs, sfW7 w hs, sfL7 w hs, sfP6 w hs, sfP7 w hs, sfP8 w hs, sfP9 w hs, sfP11 w hs, sfP12 w hs, sfP13 w hs, e, bfF0 w hb, bfW0 w hb, bfF1 w hb, bfW1 w hb, bfL1 w hb, bfF2 w hb, bfW2 w hb, bfL2 w hb, bfF3 w hb, bfW3 w hb, bfL3 w hb, bfF4 w hb, bfW4 w hb, bfL4 w hb, bfF5 w hb, bfW5 w hb, bfL5 w hb, bfF6 w hb, bfW6 w hb, bfL6 w hb, bfF7 w hb, bfW7 w hb, bfL7 w hb, bfF8 w hb, bfW8 w hb, bfL8 w hb, bfF9 w hb, bfW9 w hb, bfL9 w hb, bfF10 w hb, bfW10 w hb, bfL10 w hb, bfF11 w hb, bfW11 w hb, bfL11 w hb, bfF12 w hb, bfW12 w hb, bfL12 w hb, bfF13 w hb, bfW13 w hb, bfL13 w hb, bfF14 w hb, bfW14 w hb, bfL14 w hb, bfF15 w hb, bfW15 w hb, bfL15 w hb, bfF16 w hb, bfW16 w hb, bfL16 w hb, bfF17 w hb, bfW17 w hb, bfL17 w hb, bfP1 w hb, bfP2 w hb, bfP3 w hb, bfP5 w hb, bfP6 w hb, bfP7 w hb, bfP9 w hb, bfP10 w hb, bfP12 w hb, bfP13 w hb, bfP14 w hb, bfP16 w hb, bfP18 w hb, bfP19 w hb, if_true, h0, h1, show k < 10 by omega, and_self, e98_13, e98_23, e98_36, e98_38, wk h0 h1 (by omega), sC_9 (ns := ld h b 4) ⟨h0, h1⟩, tC_13 ⟨h0, h1⟩, Bool.and_eq_true, decide_eq_true_eq, or_true]
    by_cases q1 : sC h s (ld h b 4) (ld h b 11) 9 k = x <;> by_cases q2 : tC h b 13 k = f <;> simp [q1, q2]
theorem kin_b (w : WF h) (hb : b ∈ BKL) {k : Int} (hk : 0 ≤ k ∧ k < 3) : okF h (ld h (b + 12) k) 0 = true ∧ len h (ld h (b + 12) k) = 3 ∧ ∀ j, ld h (ld h (b + 12) k) j = krow h b k j := by
  have h3 : k = 0 ∨ k = 1 ∨ k = 2 := by omega
  rcases h3 with rfl | rfl | rfl
  · rw [bfP0_12 w hb]; exact ⟨bfF13 w hb, bfL13 w hb, fun _ => rfl⟩
  · rw [bfP1_12 w hb]; exact ⟨bfF14 w hb, bfL14 w hb, fun _ => rfl⟩
  · rw [bfP2_12 w hb]; exact ⟨bfF15 w hb, bfL15 w hb, fun _ => rfl⟩
theorem kq_100 (c : CK h s b) (d : Nat) (x y f : Int) : C d 100 [(2, s), (0, x), (0, y), (0, f)] h = some ((0, bI (tShr (tC h b) x y f)), h) := by
  obtain ⟨w, hs, hb, e, hT, hCB, hTi, hSi⟩ := id c
  have hN : 0 ≤ ld h b 15 ∧ ld h b 15 ≤ 3 := hT.2.2.2.1
  rw [ce_100, e100_0]
  refine lpA (N := ld h b 15) (G := fun k => V d 100 3 [(2, s), (0, x), (0, y), (0, f), (0, k), (9, 0)] [] h) hN.1 ?_ ?_
  · show V d 100 3 _ _ _ = _
    rw [e100_3]; simp only [sfF0 w hs, sfW0 w hs, sfF1 w hs, sfW1 w hs, sfL1 w hs, sfF2 w hs, sfW2 w hs, sfL2 w hs, sfF3 w hs, sfW3 w hs, sfL3 w hs, sfF4 w hs, sfW4 w hs, sfL4 w hs, sfF5 w hs, sfW5 w hs, sfL5 w hs, sfF6 w hs, sfW6 w hs, sfL6 w hs, sfF7 w hs, sfW7 w hs, sfL7 w hs, sfP6 w hs, sfP7 w hs, sfP8 w hs, sfP9 w hs, sfP11 w hs, sfP12 w hs, sfP13 w hs, e, bfF0 w hb, bfW0 w hb, bfF1 w hb, bfW1 w hb, bfL1 w hb, bfF2 w hb, bfW2 w hb, bfL2 w hb, bfF3 w hb, bfW3 w hb, bfL3 w hb, bfF4 w hb, bfW4 w hb, bfL4 w hb, bfF5 w hb, bfW5 w hb, bfL5 w hb, bfF6 w hb, bfW6 w hb, bfL6 w hb, bfF7 w hb, bfW7 w hb, bfL7 w hb, bfF8 w hb, bfW8 w hb, bfL8 w hb, bfF9 w hb, bfW9 w hb, bfL9 w hb, bfF10 w hb, bfW10 w hb, bfL10 w hb, bfF11 w hb, bfW11 w hb, bfL11 w hb, bfF12 w hb, bfW12 w hb, bfL12 w hb, bfF13 w hb, bfW13 w hb, bfL13 w hb, bfF14 w hb, bfW14 w hb, bfL14 w hb, bfF15 w hb, bfW15 w hb, bfL15 w hb, bfF16 w hb, bfW16 w hb, bfL16 w hb, bfF17 w hb, bfW17 w hb, bfL17 w hb, bfP1 w hb, bfP2 w hb, bfP3 w hb, bfP5 w hb, bfP6 w hb, bfP7 w hb, bfP9 w hb, bfP10 w hb, bfP12 w hb, bfP13 w hb, bfP14 w hb, bfP16 w hb, bfP18 w hb, bfP19 w hb, if_true, Int.lt_irrefl, if_false, e100_75, true_or]
  · intro k h0 h1
    show V d 100 3 _ _ _ = _
    obtain ⟨k1, k2, k3⟩ := kin_b w hb (k := k) (by omega)
    have r0 : krow h b k 0 = tC h b 15 k := (rng_in ⟨h0, h1⟩).symm
    have r1 : krow h b k 1 = tC h b 16 k := (rng_in ⟨h0, h1⟩).symm
    have r2 : krow h b k 2 = tC h b 17 k := (rng_in ⟨h0, h1⟩).symm
    rw [e100_3]; simp only [sfF0 w hs, sfW0 w hs, sfF1 w hs, sfW1 w hs, sfL1 w hs, sfF2 w hs, sfW2 w hs, sfL2 w hs, sfF3 w hs, sfW3 w hs, sfL3 w hs, sfF4 w hs, sfW4 w hs, sfL4 w hs, sfF5 w hs, sfW5 w hs, sfL5 w hs, sfF6 w hs, sfW6 w hs, sfL6 w hs, sfF7 w hs, sfW7 w hs, sfL7 w hs, sfP6 w hs, sfP7 w hs, sfP8 w hs, sfP9 w hs, sfP11 w hs, sfP12 w hs, sfP13 w hs, e, bfF0 w hb, bfW0 w hb, bfF1 w hb, bfW1 w hb, bfL1 w hb, bfF2 w hb, bfW2 w hb, bfL2 w hb, bfF3 w hb, bfW3 w hb, bfL3 w hb, bfF4 w hb, bfW4 w hb, bfL4 w hb, bfF5 w hb, bfW5 w hb, bfL5 w hb, bfF6 w hb, bfW6 w hb, bfL6 w hb, bfF7 w hb, bfW7 w hb, bfL7 w hb, bfF8 w hb, bfW8 w hb, bfL8 w hb, bfF9 w hb, bfW9 w hb, bfL9 w hb, bfF10 w hb, bfW10 w hb, bfL10 w hb, bfF11 w hb, bfW11 w hb, bfL11 w hb, bfF12 w hb, bfW12 w hb, bfL12 w hb, bfF13 w hb, bfW13 w hb, bfL13 w hb, bfF14 w hb, bfW14 w hb, bfL14 w hb, bfF15 w hb, bfW15 w hb, bfL15 w hb, bfF16 w hb, bfW16 w hb, bfL16 w hb, bfF17 w hb, bfW17 w hb, bfL17 w hb, bfP1 w hb, bfP2 w hb, bfP3 w hb, bfP5 w hb, bfP6 w hb, bfP7 w hb, bfP9 w hb, bfP10 w hb, bfP12 w hb, bfP13 w hb, bfP14 w hb, bfP16 w hb, bfP18 w hb, bfP19 w hb, if_true, h0, h1, show k < 3 by omega, and_self, e100_15, e100_35, e100_43, e100_51, e100_59, e100_67, e100_69, k1, k2, k3, r0, r1, r2, wk h0 h1 (by omega), Int.reduceLE, Int.reduceLT, Bool.and_eq_true, Bool.or_eq_true, decide_eq_true_eq, or_true]
    by_cases q0 : tC h b 17 k = f <;> by_cases q1 : tC h b 15 k = x <;> by_cases q2 : tC h b 16 k = y <;> by_cases q3 : tC h b 15 k = y <;> by_cases q4 : tC h b 16 k = x <;> simp [q0, q1, q2, q3, q4] <;> (intro z1 z2; exact absurd z1 z2)
theorem kq_99 (c : CK h s b) (d : Nat) (x : Int) : C (d + 3) 99 [(2, s), (0, x)] h = some ((0, sFace (tC h b) (sV h s b) x), h) := by
  obtain ⟨w, hs, hb, e, hT, hCB, hTi, hSi⟩ := id c
  have hN : 0 ≤ ld h b 11 ∧ ld h b 11 ≤ 10 := hT.2.2.1
  rw [ce_99, e99_0]
  refine lpD (N := ld h b 11) (G := fun k a => V (d + 3) 99 4 [(2, s), (0, x), (0, a), (0, k), (9, 0)] [] h) hN.1 ?_ ?_ 0
  · intro a
    show V (d + 3) 99 4 _ _ _ = _
    rw [e99_4]; simp only [sfF0 w hs, sfW0 w hs, sfF1 w hs, sfW1 w hs, sfL1 w hs, sfF2 w hs, sfW2 w hs, sfL2 w hs, sfF3 w hs, sfW3 w hs, sfL3 w hs, sfF4 w hs, sfW4 w hs, sfL4 w hs, sfF5 w hs, sfW5 w hs, sfL5 w hs, sfF6 w hs, sfW6 w hs, sfL6 w hs, sfF7 w hs, sfW7 w hs, sfL7 w hs, sfP6 w hs, sfP7 w hs, sfP8 w hs, sfP9 w hs, sfP11 w hs, sfP12 w hs, sfP13 w hs, e, bfF0 w hb, bfW0 w hb, bfF1 w hb, bfW1 w hb, bfL1 w hb, bfF2 w hb, bfW2 w hb, bfL2 w hb, bfF3 w hb, bfW3 w hb, bfL3 w hb, bfF4 w hb, bfW4 w hb, bfL4 w hb, bfF5 w hb, bfW5 w hb, bfL5 w hb, bfF6 w hb, bfW6 w hb, bfL6 w hb, bfF7 w hb, bfW7 w hb, bfL7 w hb, bfF8 w hb, bfW8 w hb, bfL8 w hb, bfF9 w hb, bfW9 w hb, bfL9 w hb, bfF10 w hb, bfW10 w hb, bfL10 w hb, bfF11 w hb, bfW11 w hb, bfL11 w hb, bfF12 w hb, bfW12 w hb, bfL12 w hb, bfF13 w hb, bfW13 w hb, bfL13 w hb, bfF14 w hb, bfW14 w hb, bfL14 w hb, bfF15 w hb, bfW15 w hb, bfL15 w hb, bfF16 w hb, bfW16 w hb, bfL16 w hb, bfF17 w hb, bfW17 w hb, bfL17 w hb, bfP1 w hb, bfP2 w hb, bfP3 w hb, bfP5 w hb, bfP6 w hb, bfP7 w hb, bfP9 w hb, bfP10 w hb, bfP12 w hb, bfP13 w hb, bfP14 w hb, bfP16 w hb, bfP18 w hb, bfP19 w hb, if_true, Int.lt_irrefl, if_false, e99_79]
  · intro k a h0 h1
    show V (d + 3) 99 4 _ _ _ = _
    rw [e99_4]; simp only [sfF0 w hs, sfW0 w hs, sfF1 w hs, sfW1 w hs, sfL1 w hs, sfF2 w hs, sfW2 w hs, sfL2 w hs, sfF3 w hs, sfW3 w hs, sfL3 w hs, sfF4 w hs, sfW4 w hs, sfL4 w hs, sfF5 w hs, sfW5 w hs, sfL5 w hs, sfF6 w hs, sfW6 w hs, sfL6 w hs, sfF7 w hs, sfW7 w hs, sfL7 w hs, sfP6 w hs, sfP7 w hs, sfP8 w hs, sfP9 w hs, sfP11 w hs, sfP12 w hs, sfP13 w hs, e, bfF0 w hb, bfW0 w hb, bfF1 w hb, bfW1 w hb, bfL1 w hb, bfF2 w hb, bfW2 w hb, bfL2 w hb, bfF3 w hb, bfW3 w hb, bfL3 w hb, bfF4 w hb, bfW4 w hb, bfL4 w hb, bfF5 w hb, bfW5 w hb, bfL5 w hb, bfF6 w hb, bfW6 w hb, bfL6 w hb, bfF7 w hb, bfW7 w hb, bfL7 w hb, bfF8 w hb, bfW8 w hb, bfL8 w hb, bfF9 w hb, bfW9 w hb, bfL9 w hb, bfF10 w hb, bfW10 w hb, bfL10 w hb, bfF11 w hb, bfW11 w hb, bfL11 w hb, bfF12 w hb, bfW12 w hb, bfL12 w hb, bfF13 w hb, bfW13 w hb, bfL13 w hb, bfF14 w hb, bfW14 w hb, bfL14 w hb, bfF15 w hb, bfW15 w hb, bfL15 w hb, bfF16 w hb, bfW16 w hb, bfL16 w hb, bfF17 w hb, bfW17 w hb, bfL17 w hb, bfP1 w hb, bfP2 w hb, bfP3 w hb, bfP5 w hb, bfP6 w hb, bfP7 w hb, bfP9 w hb, bfP10 w hb, bfP12 w hb, bfP13 w hb, bfP14 w hb, bfP16 w hb, bfP18 w hb, bfP19 w hb, if_true, h0, h1, show k < 10 by omega, and_self, e99_15, e99_26, e99_47, e99_66, e99_73, Cl_eq _ (kq_89 w hs hb e hT d ⟨h0, h1⟩), Cl_eq _ (kq_100 c (d + 2) _ _ _), wk h0 h1 (by omega), tC_12 ⟨h0, h1⟩, tC_13 ⟨h0, h1⟩, bI_e0]
    cases qDone (tC h b) (sV h s b) k <;> by_cases q1 : tC h b 12 k = x <;> cases hq : tShr (tC h b) (tC h b 12 k) x (tC h b 13 k) <;> simp [q1, hq] <;> (try (rw [q1] at hq; simp [hq]))
theorem kq_105 (c : CK h s b) (d : Nat) (x : Int) : C (d + 1) 105 [(2, s), (0, x)] h = some ((0, sHeir (tC h b) (sV h s b) x), h) := by
  obtain ⟨w, hs, hb, e, hT, hCB, hTi, hSi⟩ := id c
  have b4 : 0 ≤ ld h b 4 ∧ ld h b 4 ≤ 5 := hT.2.1
  have key : ∀ (n : Nat) (k x : Int), 0 ≤ k → k + n = 5 → V (d + 1) 105 4 [(2, s), (9, 0), (0, x), (0, k)] [] h = some ((0, hrf (tC h b) (sV h s b) n x), h) := by
    intro n
    induction n with
    | zero => intro k x hk hn; rw [e105_4, if_neg (by omega), e105_57]; rfl
    | succ n ih =>
      intro k x hk hn
      rw [e105_4, if_pos (by omega), if_pos (sfF0 w hs), e, if_pos (bfF0 w hb), Cl_eq _ (kq_67 w hb d x)]
      simp only [bI_e0]
      unfold hrf
      by_cases q : qSit (tC h b) x = true
      · have qr : 0 ≤ x ∧ x < ld h b 4 := qSit_iff.mp q
        rw [q, if_neg (by decide), if_pos rfl, e105_20]
        simp only [sfF0 w hs, sfW0 w hs, sfF1 w hs, sfW1 w hs, sfL1 w hs, sfF2 w hs, sfW2 w hs, sfL2 w hs, sfF3 w hs, sfW3 w hs, sfL3 w hs, sfF4 w hs, sfW4 w hs, sfL4 w hs, sfF5 w hs, sfW5 w hs, sfL5 w hs, sfF6 w hs, sfW6 w hs, sfL6 w hs, sfF7 w hs, sfW7 w hs, sfL7 w hs, sfP6 w hs, sfP7 w hs, sfP8 w hs, sfP9 w hs, sfP11 w hs, sfP12 w hs, sfP13 w hs, e, bfF0 w hb, bfW0 w hb, bfF1 w hb, bfW1 w hb, bfL1 w hb, bfF2 w hb, bfW2 w hb, bfL2 w hb, bfF3 w hb, bfW3 w hb, bfL3 w hb, bfF4 w hb, bfW4 w hb, bfL4 w hb, bfF5 w hb, bfW5 w hb, bfL5 w hb, bfF6 w hb, bfW6 w hb, bfL6 w hb, bfF7 w hb, bfW7 w hb, bfL7 w hb, bfF8 w hb, bfW8 w hb, bfL8 w hb, bfF9 w hb, bfW9 w hb, bfL9 w hb, bfF10 w hb, bfW10 w hb, bfL10 w hb, bfF11 w hb, bfW11 w hb, bfL11 w hb, bfF12 w hb, bfW12 w hb, bfL12 w hb, bfF13 w hb, bfW13 w hb, bfL13 w hb, bfF14 w hb, bfW14 w hb, bfL14 w hb, bfF15 w hb, bfW15 w hb, bfL15 w hb, bfF16 w hb, bfW16 w hb, bfL16 w hb, bfF17 w hb, bfW17 w hb, bfL17 w hb, bfP1 w hb, bfP2 w hb, bfP3 w hb, bfP5 w hb, bfP6 w hb, bfP7 w hb, bfP9 w hb, bfP10 w hb, bfP12 w hb, bfP13 w hb, bfP14 w hb, bfP16 w hb, bfP18 w hb, bfP19 w hb, if_true, qr.1, show x < 5 by omega, and_self, tC_11 qr, e105_30, Cl_eq _ (kq_67 w hb d _), bI_e0, e105_41, Cl_eq _ (kq_87 w hs d (ld h b 4) (ld h b 11) _), e105_51, wk hk (show k < 5 by omega) (by omega), ih (k + 1) (tC h b 11 x) (by omega) (by omega)]
        cases qSit (tC h b) (tC h b 11 x) <;> cases qLiv (sC h s (ld h b 4) (ld h b 11)) (tC h b 11 x) <;> simp
      · rw [if_pos (Bool.eq_false_iff.mpr q), if_neg q, e105_57]
  rw [ce_105, e105_0, key 5 0 x (by decide) (by decide)]
  rfl
theorem kq_106 (c : CK h s b) (d : Nat) : C (d + 3) 106 [(2, s)] h = some ((0, sDones (tC h b) (sV h s b)), h) := by
  obtain ⟨w, hs, hb, e, hT, hCB, hTi, hSi⟩ := id c
  have hN : 0 ≤ ld h b 11 ∧ ld h b 11 ≤ 10 := hT.2.2.1
  rw [ce_106, e106_0]
  refine lpC (N := ld h b 11) (G := fun k a => V (d + 3) 106 4 [(2, s), (0, a), (0, k)] [] h) hN.1 ?_ ?_
  · intro a
    show V (d + 3) 106 4 _ _ _ = _
    rw [e106_4]; simp only [sfF0 w hs, sfW0 w hs, sfF1 w hs, sfW1 w hs, sfL1 w hs, sfF2 w hs, sfW2 w hs, sfL2 w hs, sfF3 w hs, sfW3 w hs, sfL3 w hs, sfF4 w hs, sfW4 w hs, sfL4 w hs, sfF5 w hs, sfW5 w hs, sfL5 w hs, sfF6 w hs, sfW6 w hs, sfL6 w hs, sfF7 w hs, sfW7 w hs, sfL7 w hs, sfP6 w hs, sfP7 w hs, sfP8 w hs, sfP9 w hs, sfP11 w hs, sfP12 w hs, sfP13 w hs, e, bfF0 w hb, bfW0 w hb, bfF1 w hb, bfW1 w hb, bfL1 w hb, bfF2 w hb, bfW2 w hb, bfL2 w hb, bfF3 w hb, bfW3 w hb, bfL3 w hb, bfF4 w hb, bfW4 w hb, bfL4 w hb, bfF5 w hb, bfW5 w hb, bfL5 w hb, bfF6 w hb, bfW6 w hb, bfL6 w hb, bfF7 w hb, bfW7 w hb, bfL7 w hb, bfF8 w hb, bfW8 w hb, bfL8 w hb, bfF9 w hb, bfW9 w hb, bfL9 w hb, bfF10 w hb, bfW10 w hb, bfL10 w hb, bfF11 w hb, bfW11 w hb, bfL11 w hb, bfF12 w hb, bfW12 w hb, bfL12 w hb, bfF13 w hb, bfW13 w hb, bfL13 w hb, bfF14 w hb, bfW14 w hb, bfL14 w hb, bfF15 w hb, bfW15 w hb, bfL15 w hb, bfF16 w hb, bfW16 w hb, bfL16 w hb, bfF17 w hb, bfW17 w hb, bfL17 w hb, bfP1 w hb, bfP2 w hb, bfP3 w hb, bfP5 w hb, bfP6 w hb, bfP7 w hb, bfP9 w hb, bfP10 w hb, bfP12 w hb, bfP13 w hb, bfP14 w hb, bfP16 w hb, bfP18 w hb, bfP19 w hb, if_true, Int.lt_irrefl, if_false, e106_32]
  · intro k a h0 h1 h2 h3
    show V (d + 3) 106 4 _ _ _ = _
    rw [e106_4]; simp only [sfF0 w hs, sfW0 w hs, sfF1 w hs, sfW1 w hs, sfL1 w hs, sfF2 w hs, sfW2 w hs, sfL2 w hs, sfF3 w hs, sfW3 w hs, sfL3 w hs, sfF4 w hs, sfW4 w hs, sfL4 w hs, sfF5 w hs, sfW5 w hs, sfL5 w hs, sfF6 w hs, sfW6 w hs, sfL6 w hs, sfF7 w hs, sfW7 w hs, sfL7 w hs, sfP6 w hs, sfP7 w hs, sfP8 w hs, sfP9 w hs, sfP11 w hs, sfP12 w hs, sfP13 w hs, e, bfF0 w hb, bfW0 w hb, bfF1 w hb, bfW1 w hb, bfL1 w hb, bfF2 w hb, bfW2 w hb, bfL2 w hb, bfF3 w hb, bfW3 w hb, bfL3 w hb, bfF4 w hb, bfW4 w hb, bfL4 w hb, bfF5 w hb, bfW5 w hb, bfL5 w hb, bfF6 w hb, bfW6 w hb, bfL6 w hb, bfF7 w hb, bfW7 w hb, bfL7 w hb, bfF8 w hb, bfW8 w hb, bfL8 w hb, bfF9 w hb, bfW9 w hb, bfL9 w hb, bfF10 w hb, bfW10 w hb, bfL10 w hb, bfF11 w hb, bfW11 w hb, bfL11 w hb, bfF12 w hb, bfW12 w hb, bfL12 w hb, bfF13 w hb, bfW13 w hb, bfL13 w hb, bfF14 w hb, bfW14 w hb, bfL14 w hb, bfF15 w hb, bfW15 w hb, bfL15 w hb, bfF16 w hb, bfW16 w hb, bfL16 w hb, bfF17 w hb, bfW17 w hb, bfL17 w hb, bfP1 w hb, bfP2 w hb, bfP3 w hb, bfP5 w hb, bfP6 w hb, bfP7 w hb, bfP9 w hb, bfP10 w hb, bfP12 w hb, bfP13 w hb, bfP14 w hb, bfP16 w hb, bfP18 w hb, bfP19 w hb, if_true, h0, h1, e106_15, Cl_eq _ (kq_89 w hs hb e hT d ⟨h0, h1⟩), e106_26, bI_e0, wk h0 h1 (by omega), wk h2 (show a < 10 by omega) (by omega)]
    cases qDone (tC h b) (sV h s b) k <;> simp
theorem kq_107 (c : CK h s b) (d : Nat) : C d 107 [(2, s)] h = some ((0, sPurses (tC h b) (sV h s b)), h) := by
  obtain ⟨w, hs, hb, e, hT, hCB, hTi, hSi⟩ := id c
  have hN : 0 ≤ ld h b 4 ∧ ld h b 4 ≤ 5 := hT.2.1
  have key : ∀ (n : Nat) (k a : Int), 0 ≤ k → k + n = ld h b 4 → V d 107 4 [(2, s), (0, a), (0, k)] [] h = some ((0, smf (fun i => sV h s b 6 i) n k a), h) := by
    intro n
    induction n with
    | zero =>
      intro k a hk hn
      rw [e107_4]; simp only [sfF0 w hs, sfW0 w hs, sfF1 w hs, sfW1 w hs, sfL1 w hs, sfF2 w hs, sfW2 w hs, sfL2 w hs, sfF3 w hs, sfW3 w hs, sfL3 w hs, sfF4 w hs, sfW4 w hs, sfL4 w hs, sfF5 w hs, sfW5 w hs, sfL5 w hs, sfF6 w hs, sfW6 w hs, sfL6 w hs, sfF7 w hs, sfW7 w hs, sfL7 w hs, sfP6 w hs, sfP7 w hs, sfP8 w hs, sfP9 w hs, sfP11 w hs, sfP12 w hs, sfP13 w hs, e, bfF0 w hb, bfW0 w hb, bfF1 w hb, bfW1 w hb, bfL1 w hb, bfF2 w hb, bfW2 w hb, bfL2 w hb, bfF3 w hb, bfW3 w hb, bfL3 w hb, bfF4 w hb, bfW4 w hb, bfL4 w hb, bfF5 w hb, bfW5 w hb, bfL5 w hb, bfF6 w hb, bfW6 w hb, bfL6 w hb, bfF7 w hb, bfW7 w hb, bfL7 w hb, bfF8 w hb, bfW8 w hb, bfL8 w hb, bfF9 w hb, bfW9 w hb, bfL9 w hb, bfF10 w hb, bfW10 w hb, bfL10 w hb, bfF11 w hb, bfW11 w hb, bfL11 w hb, bfF12 w hb, bfW12 w hb, bfL12 w hb, bfF13 w hb, bfW13 w hb, bfL13 w hb, bfF14 w hb, bfW14 w hb, bfL14 w hb, bfF15 w hb, bfW15 w hb, bfL15 w hb, bfF16 w hb, bfW16 w hb, bfL16 w hb, bfF17 w hb, bfW17 w hb, bfL17 w hb, bfP1 w hb, bfP2 w hb, bfP3 w hb, bfP5 w hb, bfP6 w hb, bfP7 w hb, bfP9 w hb, bfP10 w hb, bfP12 w hb, bfP13 w hb, bfP14 w hb, bfP16 w hb, bfP18 w hb, bfP19 w hb, if_true, if_neg (show ¬ k < ld h b 4 by omega), e107_30]; rfl
    | succ n ih =>
      intro k a hk hn
      rw [e107_4]; simp only [sfF0 w hs, sfW0 w hs, sfF1 w hs, sfW1 w hs, sfL1 w hs, sfF2 w hs, sfW2 w hs, sfL2 w hs, sfF3 w hs, sfW3 w hs, sfL3 w hs, sfF4 w hs, sfW4 w hs, sfL4 w hs, sfF5 w hs, sfW5 w hs, sfL5 w hs, sfF6 w hs, sfW6 w hs, sfL6 w hs, sfF7 w hs, sfW7 w hs, sfL7 w hs, sfP6 w hs, sfP7 w hs, sfP8 w hs, sfP9 w hs, sfP11 w hs, sfP12 w hs, sfP13 w hs, e, bfF0 w hb, bfW0 w hb, bfF1 w hb, bfW1 w hb, bfL1 w hb, bfF2 w hb, bfW2 w hb, bfL2 w hb, bfF3 w hb, bfW3 w hb, bfL3 w hb, bfF4 w hb, bfW4 w hb, bfL4 w hb, bfF5 w hb, bfW5 w hb, bfL5 w hb, bfF6 w hb, bfW6 w hb, bfL6 w hb, bfF7 w hb, bfW7 w hb, bfL7 w hb, bfF8 w hb, bfW8 w hb, bfL8 w hb, bfF9 w hb, bfW9 w hb, bfL9 w hb, bfF10 w hb, bfW10 w hb, bfL10 w hb, bfF11 w hb, bfW11 w hb, bfL11 w hb, bfF12 w hb, bfW12 w hb, bfL12 w hb, bfF13 w hb, bfW13 w hb, bfL13 w hb, bfF14 w hb, bfW14 w hb, bfL14 w hb, bfF15 w hb, bfW15 w hb, bfL15 w hb, bfF16 w hb, bfW16 w hb, bfL16 w hb, bfF17 w hb, bfW17 w hb, bfL17 w hb, bfP1 w hb, bfP2 w hb, bfP3 w hb, bfP5 w hb, bfP6 w hb, bfP7 w hb, bfP9 w hb, bfP10 w hb, bfP12 w hb, bfP13 w hb, bfP14 w hb, bfP16 w hb, bfP18 w hb, bfP19 w hb, if_true, if_pos (show k < ld h b 4 by omega), e107_15, hk, show k < 5 by omega, and_self, e107_24, wk hk (show k < ld h b 4 by omega) (by omega), sC_6 (np := ld h b 11) ⟨hk, show k < ld h b 4 by omega⟩]
      exact ih (k + 1) _ (by omega) (by omega)
  rw [ce_107, e107_0, key (ld h b 4).toNat 0 0 (by decide) (by omega)]
  rfl
end FA
