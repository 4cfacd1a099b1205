/-! layer 2: what stays, and a law of a piece -/
def I32 (x : Int) : Prop := -2147483648 ≤ x ∧ x < 2147483648
def EqB (h h' : Hp) (b : Int) : Prop := ∀ j : Int, 0 ≤ j → j < 30 → j ≠ 21 → j ≠ 25 → j ≠ 29 → ∀ k, ld h' (b + j) k = ld h (b + j) k
def EqS (h h' : Hp) (s : Int) : Prop := ∀ j : Int, 0 ≤ j → j < 7 → ∀ k, ld h' (s + j) k = ld h (s + j) k
theorem EqB_0 {h h' : Hp} {b : Int} (e : EqB h h' b) (k : Int) : ld h' b k = ld h b k := by have := e 0 (by decide) (by decide) (by decide) (by decide) (by decide) k; rw [Int.add_zero] at this; exact this
theorem EqS_0 {h h' : Hp} {s : Int} (e : EqS h h' s) (k : Int) : ld h' s k = ld h s k := by have := e 0 (by decide) (by decide) k; rw [Int.add_zero] at this; exact this
theorem krow_eq {h h' : Hp} {b : Int} (e : EqB h h' b) (i j : Int) : krow h' b i j = krow h b i j := by
  unfold krow
  rw [e 13 (by decide) (by decide) (by decide) (by decide) (by decide), e 14 (by decide) (by decide) (by decide) (by decide) (by decide), e 15 (by decide) (by decide) (by decide) (by decide) (by decide)]
theorem tC_eq {h h' : Hp} {b : Int} (e : EqB h h' b) : tC h' b = tC h b := by

  have e1 : ∀ k, ld h' (b + 1) k = ld h (b + 1) k := e 1 (by decide) (by decide) (by decide) (by decide) (by decide)
  have e2 : ∀ k, ld h' (b + 2) k = ld h (b + 2) k := e 2 (by decide) (by decide) (by decide) (by decide) (by decide)
  have e3 : ∀ k, ld h' (b + 3) k = ld h (b + 3) k := e 3 (by decide) (by decide) (by decide) (by decide) (by decide)
  have e4 : ∀ k, ld h' (b + 4) k = ld h (b + 4) k := e 4 (by decide) (by decide) (by decide) (by decide) (by decide)
  have e5 : ∀ k, ld h' (b + 5) k = ld h (b + 5) k := e 5 (by decide) (by decide) (by decide) (by decide) (by decide)
  have e6 : ∀ k, ld h' (b + 6) k = ld h (b + 6) k := e 6 (by decide) (by decide) (by decide) (by decide) (by decide)
  have e7 : ∀ k, ld h' (b + 7) k = ld h (b + 7) k := e 7 (by decide) (by decide) (by decide) (by decide) (by decide)
  have e8 : ∀ k, ld h' (b + 8) k = ld h (b + 8) k := e 8 (by decide) (by decide) (by decide) (by decide) (by decide)
  have e9 : ∀ k, ld h' (b + 9) k = ld h (b + 9) k := e 9 (by decide) (by decide) (by decide) (by decide) (by decide)
  have e10 : ∀ k, ld h' (b + 10) k = ld h (b + 10) k := e 10 (by decide) (by decide) (by decide) (by decide) (by decide)
  have e11 : ∀ k, ld h' (b + 11) k = ld h (b + 11) k := e 11 (by decide) (by decide) (by decide) (by decide) (by decide)
  have e12 : ∀ k, ld h' (b + 12) k = ld h (b + 12) k := e 12 (by decide) (by decide) (by decide) (by decide) (by decide)
  have e13 : ∀ k, ld h' (b + 13) k = ld h (b + 13) k := e 13 (by decide) (by decide) (by decide) (by decide) (by decide)
  have e14 : ∀ k, ld h' (b + 14) k = ld h (b + 14) k := e 14 (by decide) (by decide) (by decide) (by decide) (by decide)
  have e15 : ∀ k, ld h' (b + 15) k = ld h (b + 15) k := e 15 (by decide) (by decide) (by decide) (by decide) (by decide)
  have e16 : ∀ k, ld h' (b + 16) k = ld h (b + 16) k := e 16 (by decide) (by decide) (by decide) (by decide) (by decide)
  have e17 : ∀ k, ld h' (b + 17) k = ld h (b + 17) k := e 17 (by decide) (by decide) (by decide) (by decide) (by decide)
  have e18 : ∀ k, ld h' (b + 18) k = ld h (b + 18) k := e 18 (by decide) (by decide) (by decide) (by decide) (by decide)
  have e19 : ∀ k, ld h' (b + 19) k = ld h (b + 19) k := e 19 (by decide) (by decide) (by decide) (by decide) (by decide)
  have e20 : ∀ k, ld h' (b + 20) k = ld h (b + 20) k := e 20 (by decide) (by decide) (by decide) (by decide) (by decide)
  have e22 : ∀ k, ld h' (b + 22) k = ld h (b + 22) k := e 22 (by decide) (by decide) (by decide) (by decide) (by decide)
  have e23 : ∀ k, ld h' (b + 23) k = ld h (b + 23) k := e 23 (by decide) (by decide) (by decide) (by decide) (by decide)
  have e24 : ∀ k, ld h' (b + 24) k = ld h (b + 24) k := e 24 (by decide) (by decide) (by decide) (by decide) (by decide)
  have e26 : ∀ k, ld h' (b + 26) k = ld h (b + 26) k := e 26 (by decide) (by decide) (by decide) (by decide) (by decide)
  have e27 : ∀ k, ld h' (b + 27) k = ld h (b + 27) k := e 27 (by decide) (by decide) (by decide) (by decide) (by decide)
  have e28 : ∀ k, ld h' (b + 28) k = ld h (b + 28) k := e 28 (by decide) (by decide) (by decide) (by decide) (by decide)
  have e0 : ∀ k, ld h' b k = ld h b k := EqB_0 e
  have er : ∀ i j, krow h' b i j = krow h b i j := krow_eq e
  funext f i
  unfold tC
  split <;> simp only [e0, er, e1, e2, e3, e4, e5, e6, e7, e8, e9, e10, e11, e12, e13, e14, e15, e16, e17, e18, e19, e20, e22, e23, e24, e26, e27, e28]
theorem sC_eq {h h' : Hp} {s : Int} (e : EqS h h' s) (ns np : Int) : sC h' s ns np = sC h s ns np := by
  have e1 : ∀ k, ld h' (s + 1) k = ld h (s + 1) k := e 1 (by decide) (by decide)
  have e2 : ∀ k, ld h' (s + 2) k = ld h (s + 2) k := e 2 (by decide) (by decide)
  have e3 : ∀ k, ld h' (s + 3) k = ld h (s + 3) k := e 3 (by decide) (by decide)
  have e4 : ∀ k, ld h' (s + 4) k = ld h (s + 4) k := e 4 (by decide) (by decide)
  have e5 : ∀ k, ld h' (s + 5) k = ld h (s + 5) k := e 5 (by decide) (by decide)
  have e6 : ∀ k, ld h' (s + 6) k = ld h (s + 6) k := e 6 (by decide) (by decide)
  have e0 : ∀ k, ld h' s k = ld h s k := EqS_0 e
  funext f i
  unfold sC
  split <;> simp only [e0, e1, e2, e3, e4, e5, e6]
theorem FrS_B {h h' : Hp} (f : FrS h h') {b : Int} (hb : b ∈ BKL) : EqB h h' b := fun j h0 h1 a1 a2 a3 k => f.2.2 (b + j) k (by
  have := List.all_eq_true.mp (List.all_eq_true.mp scr_b b hb) j (List.mem_map.mpr ⟨j.toNat, List.mem_range.mpr (by omega), by omega⟩)
  rw [Bool.or_eq_true, decide_eq_true_eq, Bool.not_eq_true'] at this
  exact this.resolve_left (by omega))
theorem FrS_S {h h' : Hp} (f : FrS h h') {s : Int} (hs : s ∈ STL) : EqS h h' s := fun j h0 h1 k => f.2.2 (s + j) k (by
  have := List.all_eq_true.mp scr_s s hs
  rw [Bool.and_eq_true] at this
  have h7 : j = 0 ∨ j = 1 ∨ j = 2 ∨ j = 3 ∨ j = 4 ∨ j = 5 ∨ j = 6 := by omega
  have := List.all_eq_true.mp this.2 j (by rcases h7 with rfl | rfl | rfl | rfl | rfl | rfl | rfl <;> decide)
  simpa using this)
/-- the laws of a book as the class keeps them -/
def CB (h : Hp) (b : Int) : Prop := ∀ k : Int, 0 ≤ k → k < 3 → (0 ≤ ld h (b + 18 + 4 * k) 3 ∧ ld h (b + 18 + 4 * k) 3 ≤ 64) ∧ ∀ i : Int, 0 ≤ i → i < ld h (b + 18 + 4 * k) 3 → (-38 ≤ ld h (b + 19 + 4 * k) i ∧ ld h (b + 19 + 4 * k) i ≤ -1) ∧ I32 (ld h (b + 20 + 4 * k) i)
theorem CB_eq {h h' : Hp} {b : Int} (e : EqB h h' b) (c : CB h b) : CB h' b := by
  intro k h0 h1
  have a1 : ∀ i, ld h' (b + 18 + 4 * k) i = ld h (b + 18 + 4 * k) i := fun i => by have := e (18 + 4 * k) (by omega) (by omega) (by omega) (by omega) (by omega) i; rw [show b + 18 + 4 * k = b + (18 + 4 * k) by omega]; exact this
  have a2 : ∀ i, ld h' (b + 19 + 4 * k) i = ld h (b + 19 + 4 * k) i := fun i => by have := e (19 + 4 * k) (by omega) (by omega) (by omega) (by omega) (by omega) i; rw [show b + 19 + 4 * k = b + (19 + 4 * k) by omega]; exact this
  have a3 : ∀ i, ld h' (b + 20 + 4 * k) i = ld h (b + 20 + 4 * k) i := fun i => by have := e (20 + 4 * k) (by omega) (by omega) (by omega) (by omega) (by omega) i; rw [show b + 20 + 4 * k = b + (20 + 4 * k) by omega]; exact this
  rw [a1]
  exact ⟨(c k h0 h1).1, fun i i0 i1 => by rw [a2, a3]; exact (c k h0 h1).2 i i0 i1⟩
/-- what the names of a law stand for -/
def imax (a b : Int) : Int := if a < b then b else a
def imin (a b : Int) : Int := if b < a then b else a
def nmV (T S : Wd) (p one : Int) : Int → Int := fun i =>
  if i = 0 then tBase T p else if i = 1 then w32 (tSize T p - S 8 p) else if i = 2 then S 6 one else if i = 3 then sOwned T S one else if i = 4 then S 0 0 else if i = 5 then imax 0 (w32 (T 14 p - S 0 0)) else S 7 p
def lwV (T S : Wd) (k : Nat) (p one : Int) : Option Int := evl (nmV T S p one) (T (22 + 2 * k)) (T (23 + 2 * k)) (T (19 + k) 0).toNat
theorem krun_cong {nm nm' so so' va va' : Int → Int} : ∀ (n : Nat) (k : Int) (l : List Int), (∀ i, k ≤ i → i < k + n → so i = so' i ∧ va i = va' i ∧ (so i = 1 → nm (va i) = nm' (va' i))) → krun nm so va n k l = krun nm' so' va' n k l
  | 0, _, _, _ => rfl
  | n + 1, k, l, e => by
    obtain ⟨a, b, c⟩ := e k (by omega) (by omega)
    have hs : kstep nm (so k) (va k) l = kstep nm' (so' k) (va' k) l := by
      unfold kstep
      rw [← a, ← b]
      by_cases h1 : so k = 1
      · rw [if_neg (by omega), if_pos h1, if_neg (by omega), if_pos h1, c h1, b]
      · by_cases h0 : so k = 0
        · rw [if_pos h0, if_pos h0]
        · rw [if_neg h0, if_neg h1, if_neg h0, if_neg h1]
    unfold krun
    rw [hs]
    cases kstep nm' (so' k) (va' k) l with
    | none => rfl
    | some l' => exact krun_cong n (k + 1) l' (fun i h1 h2 => e i (by omega) (by omega))
theorem evl_cong {nm nm' so so' va va' : Int → Int} {n : Nat} (e : ∀ i : Int, 0 ≤ i → i < n → so i = so' i ∧ va i = va' i ∧ (so i = 1 → nm (va i) = nm' (va' i))) : evl nm so va n = evl nm' so' va' n := by
  unfold evl
  rw [krun_cong n 0 [] (fun i h1 h2 => e i h1 (by omega))]
theorem kval_nm {t n : Int} (h : ksort t = 1) : 0 ≤ kval t n ∧ kval t n < 7 := by
  unfold ksort at h
  unfold kval
  split at h
  · omega
  · rename_i h1
    split at h
    · rename_i h2; rw [if_neg h1, if_pos h2]; omega
    · omega

