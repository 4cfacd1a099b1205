/-! layer 2: the plain program: a sitter dies -/
theorem php : ∀ a b c d e f : Fin 5, a = b ∨ a = c ∨ a = d ∨ a = e ∨ a = f ∨ b = c ∨ b = d ∨ b = e ∨ b = f ∨ c = d ∨ c = e ∨ c = f ∨ d = e ∨ d = f ∨ e = f := by decide +kernel
theorem phi {a b c d e f : Int} (ha : 0 ≤ a ∧ a < 5) (hb : 0 ≤ b ∧ b < 5) (hc : 0 ≤ c ∧ c < 5) (hd : 0 ≤ d ∧ d < 5) (he : 0 ≤ e ∧ e < 5) (hf : 0 ≤ f ∧ f < 5) : a = b ∨ a = c ∨ a = d ∨ a = e ∨ a = f ∨ b = c ∨ b = d ∨ b = e ∨ b = f ∨ c = d ∨ c = e ∨ c = f ∨ d = e ∨ d = f ∨ e = f := by
  have h := php ⟨a.toNat, by omega⟩ ⟨b.toNat, by omega⟩ ⟨c.toNat, by omega⟩ ⟨d.toNat, by omega⟩ ⟨e.toNat, by omega⟩ ⟨f.toNat, by omega⟩
  simp only [Fin.mk.injEq] at h
  omega
section BU
variable {h h' : Hp} {z : Zt} {n : Int} {T S : Wd}
/-- the plain search for an heir: m steps at most -/
def rhe (T S : Wd) : Nat → Int → Int
  | 0, t => t
  | m + 1, t => if t = -1 ∨ qLiv S t = true then t else rhe T S m (T 11 t)
theorem heir_r (hT : TOK T) {x : Int} (hx : 0 ≤ x ∧ x < T 1 0) : T 11 x = -1 ∨ (0 ≤ T 11 x ∧ T 11 x < T 1 0) := by
  rcases (hT.2.2.2.2.2.1 x hx.1 hx.2).2 with q | q
  · exact Or.inl q
  · exact Or.inr ⟨q.1, q.2.1⟩
/-- one step of the class's search in the plain program's words -/
theorem hrf_s (hT : TOK T) {m : Nat} {x : Int} (hx : 0 ≤ x ∧ x < T 1 0) : hrf T S (m + 1) x = if T 11 x = -1 then (if m = 0 then -2 else -2) else if qLiv S (T 11 x) = true then T 11 x else hrf T S m (T 11 x) := by
  have h1 : qSit T x = true := qSit_iff.mpr hx
  show (if qSit T x = true then (if qSit T (T 11 x) = true ∧ qLiv S (T 11 x) = true then T 11 x else hrf T S m (T 11 x)) else -2) = _
  rw [if_pos h1]
  rcases heir_r hT hx with q | q
  · rw [if_pos q, if_neg (fun u => by have := qSit_iff.mp u.1; omega), q]
    have nq : ¬ qSit T (-1) = true := fun u => by have := qSit_iff.mp u; omega
    cases m with
    | zero => rfl
    | succ m =>
      show (if qSit T (-1) = true then _ else -2) = _
      rw [if_neg nq, if_neg (by omega)]
  · rw [if_neg (show ¬ T 11 x = -1 by omega)]
    by_cases y : qLiv S (T 11 x) = true
    · rw [if_pos (show qSit T (T 11 x) = true ∧ qLiv S (T 11 x) = true from ⟨qSit_iff.mpr q, y⟩), if_pos y]
    · rw [if_neg (show ¬ (qSit T (T 11 x) = true ∧ qLiv S (T 11 x) = true) from fun u => y u.2), if_neg y]
theorem rhe_h (hT : TOK T) {x : Int} (hx : 0 ≤ x ∧ x < T 1 0) (hd : qLiv S x = false) : (if rhe T S 5 (T 11 x) = -1 then -2 else if qLiv S (rhe T S 5 (T 11 x)) = true then rhe T S 5 (T 11 x) else -2) = hrf T S 5 x := by
  have t1 := hT.2.1
  have step : ∀ (m : Nat) (y : Int), 0 ≤ y ∧ y < T 1 0 → hrf T S (m + 1) y = if T 11 y = -1 then -2 else if qLiv S (T 11 y) = true then T 11 y else hrf T S m (T 11 y) := fun m y hy => by
    rw [hrf_s hT hy]; split
    · split <;> rfl
    · rfl
  have rs : ∀ (m : Nat) (t : Int), rhe T S (m + 1) t = if t = -1 ∨ qLiv S t = true then t else rhe T S m (T 11 t) := fun m t => rfl
  have fin : ∀ (m : Nat) (t : Int), (t = -1 ∨ qLiv S t = true) → rhe T S m t = t := fun m t e => by
    cases m with
    | zero => rfl
    | succ m => rw [rs, if_pos e]
  -- the six: x and five heirs
  generalize h1 : T 11 x = a1 at *
  rw [step 4 x hx, h1]
  rcases heir_r hT hx with q | q
  · rw [h1] at q; rw [fin 5 a1 (Or.inl q), if_pos q, if_pos q]
  rw [h1] at q
  rw [if_neg (by omega : ¬ a1 = -1)]
  by_cases l1 : qLiv S a1 = true
  · rw [fin 5 a1 (Or.inr l1), if_neg (by omega), if_pos l1, if_pos l1]
  rw [if_neg l1, rs, if_neg (show ¬ (a1 = -1 ∨ qLiv S a1 = true) from fun u => u.elim (fun u => by omega) l1)]
  generalize h2 : T 11 a1 = a2 at *
  rw [step 3 a1 q, h2]
  rcases heir_r hT q with q2 | q2
  · rw [h2] at q2; rw [fin 4 a2 (Or.inl q2), if_pos q2, if_pos q2]
  rw [h2] at q2
  rw [if_neg (by omega : ¬ a2 = -1)]
  by_cases l2 : qLiv S a2 = true
  · rw [fin 4 a2 (Or.inr l2), if_neg (by omega), if_pos l2, if_pos l2]
  rw [if_neg l2, rs, if_neg (show ¬ (a2 = -1 ∨ qLiv S a2 = true) from fun u => u.elim (fun u => by omega) l2)]
  generalize h3 : T 11 a2 = a3 at *
  rw [step 2 a2 q2, h3]
  rcases heir_r hT q2 with q3 | q3
  · rw [h3] at q3; rw [fin 3 a3 (Or.inl q3), if_pos q3, if_pos q3]
  rw [h3] at q3
  rw [if_neg (by omega : ¬ a3 = -1)]
  by_cases l3 : qLiv S a3 = true
  · rw [fin 3 a3 (Or.inr l3), if_neg (by omega), if_pos l3, if_pos l3]
  rw [if_neg l3, rs, if_neg (show ¬ (a3 = -1 ∨ qLiv S a3 = true) from fun u => u.elim (fun u => by omega) l3)]
  generalize h4 : T 11 a3 = a4 at *
  rw [step 1 a3 q3, h4]
  rcases heir_r hT q3 with q4 | q4
  · rw [h4] at q4; rw [fin 2 a4 (Or.inl q4), if_pos q4, if_pos q4]
  rw [h4] at q4
  rw [if_neg (by omega : ¬ a4 = -1)]
  by_cases l4 : qLiv S a4 = true
  · rw [fin 2 a4 (Or.inr l4), if_neg (by omega), if_pos l4, if_pos l4]
  rw [if_neg l4, rs, if_neg (show ¬ (a4 = -1 ∨ qLiv S a4 = true) from fun u => u.elim (fun u => by omega) l4)]
  generalize h5 : T 11 a4 = a5 at *
  rw [step 0 a4 q4, h5]
  rcases heir_r hT q4 with q5 | q5
  · rw [h5] at q5; rw [fin 1 a5 (Or.inl q5), if_pos q5, if_pos q5]
  rw [h5] at q5
  rw [if_neg (by omega : ¬ a5 = -1)]
  by_cases l5 : qLiv S a5 = true
  · rw [fin 1 a5 (Or.inr l5), if_neg (by omega), if_pos l5, if_pos l5]
  rw [if_neg l5, rs, if_neg (show ¬ (a5 = -1 ∨ qLiv S a5 = true) from fun u => u.elim (fun u => by omega) l5)]
  show (if T 11 a5 = -1 then -2 else if qLiv S (T 11 a5) = true then T 11 a5 else -2) = -2
  by_cases n6 : T 11 a5 = -1
  · rw [if_pos n6]
  rw [if_neg n6]
  have dead : ¬ qLiv S (T 11 a5) = true := by
    have hx0 : ¬ qLiv S x = true := by rw [hd]; decide
    rcases phi (a := x) (b := a1) (c := a2) (d := a3) (e := a4) (f := a5) (by omega) (by omega) (by omega) (by omega) (by omega) (by omega) with e | e | e | e | e | e | e | e | e | e | e | e | e | e | e
    · -- x = a1
      have e2 : a1 = a2 := by rw [← h1, ← h2, e]
      have e3 : a2 = a3 := by rw [← h2, ← h3, e2]
      have e4 : a3 = a4 := by rw [← h3, ← h4, e3]
      have e5 : a4 = a5 := by rw [← h4, ← h5, e4]
      rw [← e5, h5, ← e5]; exact l4
    · have e2 : a1 = a3 := by rw [← h1, ← h3, e]
      have e3 : a2 = a4 := by rw [← h2, ← h4, e2]
      have e4 : a3 = a5 := by rw [← h3, ← h5, e3]
      rw [← e4, h4]; exact l4
    · have e2 : a1 = a4 := by rw [← h1, ← h4, e]
      have e3 : a2 = a5 := by rw [← h2, ← h5, e2]
      rw [← e3, h3]; exact l3
    · have e2 : a1 = a5 := by rw [← h1, ← h5, e]
      rw [← e2, h2]; exact l2
    · rw [← e, h1]; exact l1
    · have e3 : a2 = a3 := by rw [← h2, ← h3, e]
      have e4 : a3 = a4 := by rw [← h3, ← h4, e3]
      have e5 : a4 = a5 := by rw [← h4, ← h5, e4]
      rw [← e5, h5, ← e5]; exact l4
    · have e3 : a2 = a4 := by rw [← h2, ← h4, e]
      have e4 : a3 = a5 := by rw [← h3, ← h5, e3]
      rw [← e4, h4]; exact l4
    · have e3 : a2 = a5 := by rw [← h2, ← h5, e]
      rw [← e3, h3]; exact l3
    · rw [← e, h2]; exact l2
    · have e4 : a3 = a4 := by rw [← h3, ← h4, e]
      have e5 : a4 = a5 := by rw [← h4, ← h5, e4]
      rw [← e5, h5, ← e5]; exact l4
    · have e4 : a3 = a5 := by rw [← h3, ← h5, e]
      rw [← e4, h4]; exact l4
    · rw [← e, h3]; exact l3
    · have e5 : a4 = a5 := by rw [← h4, ← h5, e]
      rw [← e5, h5, ← e5]; exact l4
    · rw [← e, h4]; exact l4
    · rw [← e, h5, ← e]; exact l4
  rw [if_neg dead]
theorem IV_die1 (iv : IV n T S) {x : Int} (hx : 0 ≤ x ∧ x < 5) : IV n T (sDie1 S x) := by
  obtain ⟨i1, i2, i3, i4, i5, i6, i7, i8⟩ := iv
  exact ⟨i1, i2, i3, i4, i5, i6, or_b i7 hx, i8⟩
theorem IV_die2 (iv : IV n T S) (hn : n ≤ 600) {x r : Int} (hx : 0 ≤ x ∧ x < 5) (hr : r = -2 ∨ ((0 ≤ r ∧ r < 5) ∧ r ≠ x)) : IV n T (sDie2 S x r) := by
  obtain ⟨i1, i2, i3, i4, i5, i6, i7, i8⟩ := iv
  have b0 := i2 x hx.1 hx.2
  unfold sDie2
  rcases hr with q | ⟨q1, q2⟩
  · rw [if_pos q]
    refine ⟨i1, fun s a b => ?_, ?_, i4, i5, i6, i7, i8⟩
    · show 0 ≤ (if (6 : Nat) = 6 ∧ s = x then 0 else S 6 s)
      split
      · omega
      · exact i2 s a b
    · rw [SUM_up hx]
      show SUM S - S 6 x + 0 ≤ _
      omega
  · have br := i2 r q1.1 q1.2
    have sx := SUM_le i2 hx
    have sr := SUM_le i2 q1
    have hw : w32 (S 6 r + S 6 x) = S 6 r + S 6 x := by unfold w32; omega
    rw [if_neg (by omega), hw]
    refine ⟨i1, fun s a b => ?_, ?_, i4, i5, i6, i7, i8⟩
    · show 0 ≤ (if (6 : Nat) = 6 ∧ s = x then 0 else if (6 : Nat) = 6 ∧ s = r then S 6 r + S 6 x else S 6 s)
      split
      · omega
      · split
        · omega
        · exact i2 s a b
    · rw [SUM_up hx, SUM_up q1]
      have : up2 S 6 r (S 6 r + S 6 x) 6 x = S 6 x := by
        show (if (6 : Nat) = 6 ∧ x = r then _ else S 6 x) = _
        rw [if_neg (fun z => q2 z.2.symm)]
      rw [this]; omega
theorem dead_x (iv : IV n T S) {x : Int} (hx : 0 ≤ x ∧ x < 5) : qLiv (sDie1 S x) x = false := by
  have b := iv.2.2.2.2.2.2.1
  have := (bit_or (x := S 2 0) (k := x) (by omega) (by omega)).2 x hx.1 (by omega)
  rw [if_pos rfl] at this
  unfold qLiv
  show decide (and32 (shr32 (or32 (S 2 0) (shl32 1 x)) x) 1 = 0) = false
  rw [this]; rfl
theorem rk_220 (c : RR n h z) (x : Int) (d : Nat) : OPr n h z (d + 3) 220 [(2, 311), (0, x)] 0 (zDies x z).1 n (zDies x z).2 := by
  obtain ⟨c0, f0⟩ := RR_0 c 0
  have w := c.k.w
  have w0 := c0.k.w
  have hT := c.k.K
  have t1 := hT.2.1
  have t2 := hT.2.2.1
  unfold zDies
  have e0 : C (d + 3) 220 [(2, 311), (0, x)] h = if bI (qSit z.T x) = 0 then some ((0, -1), st h 311 0 0) else if bI (qLiv z.S x) = 0 then some ((0, -1), st h 311 0 0) else V (d + 3) 220 24 [(2, 311), (0, x), (9, 0), (9, 0)] [] (st h 311 0 0) := by
    rw [ce_220, e220_0, if_pos (W_a311 w), if_pos (F_a311 w0), Cl_eq _ (rk_180 c0.k.1 x (d + 2)), e220_22, e220_13, if_pos (F_a311 w0), Cl_eq _ (rk_183 c0.k x (d + 2)), e220_22]
  generalize st h 311 0 0 = h0 at *
  cases hq : qSit z.T x with
  | false => rw [if_pos (Or.inl rfl)]; exact ⟨h0, by rw [e0, hq, if_pos bI_f], c0, f0⟩
  | true =>
    rw [hq, if_neg (by decide)] at e0
    cases hl : qLiv z.S x with
    | false => rw [if_pos (Or.inr rfl)]; exact ⟨h0, by rw [e0, hl, if_pos bI_f], c0, f0⟩
    | true =>
      rw [hl, if_neg (by decide)] at e0
      rw [if_neg (by rintro (u | u) <;> cases u)]
      have hx := qSit_iff.mp hq
      have hx5 : 0 ≤ x ∧ x < 5 := by omega
      obtain ⟨h1, a1, c1, f1, -⟩ := rk_218 c0 (d + 1)
      have w1 := c1.k.w
      have k1 : RK h1 0 z.T z.S := c1.k
      obtain ⟨r2, f2⟩ := rk_u2 k1 (v := or32 (z.S 2 0) (shl32 1 x)) (or32_I _ _)
      have r2 : RK (st h1 335 0 (or32 (z.S 2 0) (shl32 1 x))) 0 z.T (sDie1 z.S x) := r2
      have w2 := r2.w
      have iv2 := IV_die1 c.iv hx5
      have e24 : V (d + 3) 220 24 [(2, 311), (0, x), (9, 0), (9, 0)] [] h0 = V (d + 3) 220 49 [(2, 311), (0, x), (0, z.T 11 x), (0, 0)] [] (st h1 335 0 (or32 (z.S 2 0) (shl32 1 x))) := by
        rw [e220_24, if_pos (F_a311 w0), Cl_eq _ a1, if_pos (F_a311 w1), P_311_38 w1, if_pos (F_a335 w1), L_a335 w1, if_pos (by decide), if_pos (W_a335 w1), if_pos (by decide), rs2 k1, e220_40, if_pos (F_a311 w2), P_311_11 w2, if_pos (F_a321 w2), L_a321 w2, if_pos (by omega), rt11 r2.1 hx, e220_47]
      have dd := dead_x c.iv hx5
      have hR := rhe_h (S := sDie1 z.S x) hT hx dd
      generalize st h1 335 0 (or32 (z.S 2 0) (shl32 1 x)) = h2 at *
      -- the search
      have srch : ∀ (m : Nat) (t k : Int), (t = -1 ∨ (0 ≤ t ∧ t < z.T 1 0)) → 0 ≤ k → k + m = 5 → V (d + 3) 220 49 [(2, 311), (0, x), (0, t), (0, k)] [] h2 = V (d + 3) 220 81 [(2, 311), (0, x), (0, rhe z.T (sDie1 z.S x) m t), (9, 0)] [] h2 ∧ (rhe z.T (sDie1 z.S x) m t = -1 ∨ (0 ≤ rhe z.T (sDie1 z.S x) m t ∧ rhe z.T (sDie1 z.S x) m t < z.T 1 0)) := by
        intro m
        induction m with
        | zero =>
          intro t k ht k0 hk
          refine ⟨?_, ht⟩
          rw [e220_49, if_neg (by omega)]
          rfl
        | succ m ih =>
          intro t k ht k0 hk
          show V (d + 3) 220 49 [(2, 311), (0, x), (0, t), (0, k)] [] h2 = V (d + 3) 220 81 [(2, 311), (0, x), (0, if t = -1 ∨ qLiv (sDie1 z.S x) t = true then t else rhe z.T (sDie1 z.S x) m (z.T 11 t)), (9, 0)] [] h2 ∧ ((if t = -1 ∨ qLiv (sDie1 z.S x) t = true then t else rhe z.T (sDie1 z.S x) m (z.T 11 t)) = -1 ∨ (0 ≤ (if t = -1 ∨ qLiv (sDie1 z.S x) t = true then t else rhe z.T (sDie1 z.S x) m (z.T 11 t)) ∧ (if t = -1 ∨ qLiv (sDie1 z.S x) t = true then t else rhe z.T (sDie1 z.S x) m (z.T 11 t)) < z.T 1 0))
          rw [e220_49, if_pos (by omega)]
          by_cases y : t = -1
          · rw [if_pos y, if_pos (Or.inl y)]; exact ⟨rfl, Or.inl y⟩
          · have ht2 : 0 ≤ t ∧ t < z.T 1 0 := ht.resolve_left y
            rw [if_neg y, e220_59, if_pos (F_a311 w2), Cl_eq _ (rk_183 r2 t (d + 2))]
            cases hv : qLiv (sDie1 z.S x) t with
            | true => rw [if_neg (by decide), if_pos (Or.inr rfl)]; exact ⟨rfl, Or.inr ht2⟩
            | false =>
              rw [if_pos bI_f, if_neg (show ¬ (t = -1 ∨ false = true) from fun u => u.elim y (fun u => by cases u)), e220_68, if_pos (F_a311 w2), P_311_11 w2, if_pos (F_a321 w2), L_a321 w2, if_pos (by omega), rt11 r2.1 ht2, e220_75, show w32 (k + 1) = k + 1 by unfold w32; omega]
              exact ih (z.T 11 t) (k + 1) (heir_r hT ht2) (by omega) (by omega)
      obtain ⟨s1, s2⟩ := srch 5 (z.T 11 x) 0 (heir_r hT hx) (by decide) (by decide)
      rw [s1] at e24
      generalize rhe z.T (sDie1 z.S x) 5 (z.T 11 x) = t at *
      -- r: the class's heir; u: the plain one
      have hr : sDieR z.T z.S x = if t = -1 then -2 else if qLiv (sDie1 z.S x) t = true then t else -2 := hR.symm
      have e81 : V (d + 3) 220 81 [(2, 311), (0, x), (0, t), (9, 0)] [] h2 = V (d + 3) 220 97 [(2, 311), (0, x), (0, if sDieR z.T z.S x = -2 then -1 else sDieR z.T z.S x), (9, 0)] [] h2 := by
        rw [e220_81, hr]
        by_cases y : t = -1
        · simp only [if_pos y]
          rw [y]; rfl
        · rw [if_neg y, if_pos (F_a311 w2), Cl_eq _ (rk_183 r2 t (d + 2)), if_neg y]
          have ht2 : 0 ≤ t ∧ t < z.T 1 0 := s2.resolve_left y
          cases hv : qLiv (sDie1 z.S x) t with
          | true => rw [if_neg (by decide), if_pos rfl, if_neg (by omega)]
          | false => rw [if_pos bI_f, e220_95]; rfl
      have hrr : sDieR z.T z.S x = -2 ∨ ((0 ≤ sDieR z.T z.S x ∧ sDieR z.T z.S x < z.T 1 0) ∧ sDieR z.T z.S x ≠ x) := by
        rw [hr]
        by_cases y : t = -1
        · rw [if_pos y]; exact Or.inl rfl
        · rw [if_neg y]
          have ht2 : 0 ≤ t ∧ t < z.T 1 0 := s2.resolve_left y
          cases hv : qLiv (sDie1 z.S x) t with
          | true => rw [if_pos rfl]; exact Or.inr ⟨ht2, fun e => by rw [e, dd] at hv; cases hv⟩
          | false => rw [if_neg (by decide)]; exact Or.inl rfl
      rw [e24, e81] at e0
      have eS : sDie z.T z.S x = fldS (sDie3 x (sDieR z.T z.S x)) (z.T 2 0).toNat 0 (sDie2 (sDie1 z.S x) x (sDieR z.T z.S x)) := rfl
      rw [eS]
      generalize sDieR z.T z.S x = r at *
      have iv3 : IV n z.T (sDie2 (sDie1 z.S x) x r) := IV_die2 iv2 c.nb.2 hx5 (hrr.elim Or.inl (fun q => Or.inr ⟨by have := q.1; omega, q.2⟩))
      -- the purse
      have purse : ∃ h3, V (d + 3) 220 97 [(2, 311), (0, x), (0, if r = -2 then -1 else r), (9, 0)] [] h2 = V (d + 3) 220 144 [(2, 311), (0, x), (0, if r = -2 then -1 else r), (0, 0)] [] h3 ∧ FrA 0 h2 h3 ∧ RK h3 0 z.T (sDie2 (sDie1 z.S x) x r) := by
        have e6 := rs6 r2 hx
        rw [show (5 : Int) * 0 + x = x by omega] at e6
        unfold sDie2
        rcases hrr with q | ⟨q1, q2⟩
        · obtain ⟨r3, f3⟩ := rk_u1 r2 (v := w32 (sDie1 z.S x 1 0 + sDie1 z.S x 6 x)) (w32_I _)
          have w3 := r3.w
          obtain ⟨r4, f4⟩ := rk_u6 r3 hx (v := 0) (I32_of (by decide))
          rw [show (5 : Int) * 0 + x = x by omega] at r4 f4
          refine ⟨_, ?_, FrA_tr f3 f4, by rw [if_pos q]; exact r4⟩
          rw [if_pos q, e220_97, if_pos rfl, if_pos (F_a311 w2), P_311_37 w2, if_pos (F_a334 w2), L_a334 w2, if_pos (by decide), if_pos (F_a311 w2), P_311_41 w2, if_pos (F_a338 w2), L_a338 w2, if_pos (by omega), if_pos (W_a334 w2), if_pos (by decide), rs1 r2, e6, e220_117, e220_135, if_pos (F_a311 w3), P_311_41 w3, if_pos (W_a338 w3), L_a338 w3, if_pos (by omega), e220_142]
        · have er := rs6 r2 q1
          rw [show (5 : Int) * 0 + r = r by omega] at er
          obtain ⟨r3, f3⟩ := rk_u6 r2 q1 (v := w32 (sDie1 z.S x 6 r + sDie1 z.S x 6 x)) (w32_I _)
          rw [show (5 : Int) * 0 + r = r by omega] at r3 f3
          have w3 := r3.w
          obtain ⟨r4, f4⟩ := rk_u6 r3 hx (v := 0) (I32_of (by decide))
          rw [show (5 : Int) * 0 + x = x by omega] at r4 f4
          refine ⟨_, ?_, FrA_tr f3 f4, by rw [if_neg (by omega)]; exact r4⟩
          rw [if_neg (by omega), e220_97, if_neg (by omega), e220_120, if_pos (F_a311 w2), P_311_41 w2, if_pos (F_a338 w2), L_a338 w2, if_pos (by omega), if_pos (F_a311 w2), if_pos (F_a338 w2), if_pos (by omega), if_pos (W_a338 w2), if_pos (by omega), er, e6, e220_135, if_pos (F_a311 w3), P_311_41 w3, if_pos (W_a338 w3), L_a338 w3, if_pos (by omega), e220_142]
      obtain ⟨h3, a3, f3, r3⟩ := purse
      -- the pieces
      have pcs : ∀ (m : Nat) (k : Int) (S : Wd) (h1 : Hp), RK h1 0 z.T S → IV n z.T S → 0 ≤ k → k + m = z.T 2 0 → ∃ h', V (d + 3) 220 144 [(2, 311), (0, x), (0, if r = -2 then -1 else r), (0, k)] [] h1 = some ((0, r), h') ∧ FrA 0 h1 h' ∧ RK h' 0 z.T (fldS (sDie3 x r) m k S) ∧ IV n z.T (fldS (sDie3 x r) m k S) := by
        intro m
        induction m with
        | zero =>
          intro k S h1 rr iv k0 hk
          have w1 := rr.w
          refine ⟨h1, ?_, FrA_rf w1, rr, iv⟩
          rw [e220_144, if_pos (F_a311 w1), P_311_3 w1, if_pos (F_a313 w1), L_a313 w1, if_pos (by decide), rt2 rr.1, if_neg (by omega), e220_187]
          by_cases y : r = -2
          · rw [if_pos y, if_pos rfl, e220_198, y]
          · rw [if_neg y, if_neg (by omega), e220_197, e220_198]
        | succ m ih =>
          intro k S h1 rr iv k0 hk
          have w1 := rr.w
          have hp : 0 ≤ k ∧ k < z.T 2 0 := ⟨k0, by omega⟩
          have e9 := rs9 rr hp
          rw [show (10 : Int) * 0 + k = k by omega] at e9
          have wk1 : w32 (k + 1) = k + 1 := by unfold w32; omega
          show ∃ h', _ ∧ _ ∧ RK h' 0 z.T (fldS (sDie3 x r) m (k + 1) (sDie3 x r k S)) ∧ IV n z.T (fldS (sDie3 x r) m (k + 1) (sDie3 x r k S))
          have e144 : V (d + 3) 220 144 [(2, 311), (0, x), (0, if r = -2 then -1 else r), (0, k)] [] h1 = if S 9 k = x then V (d + 3) 220 164 [(2, 311), (0, x), (0, if r = -2 then -1 else r), (0, k)] [] h1 else V (d + 3) 220 181 [(2, 311), (0, x), (0, if r = -2 then -1 else r), (0, k)] [] h1 := by
            rw [e220_144, if_pos (F_a311 w1), P_311_3 w1, if_pos (F_a313 w1), L_a313 w1, if_pos (by decide), rt2 rr.1, if_pos hp.2, e220_154, if_pos (F_a311 w1), P_311_44 w1, if_pos (F_a341 w1), L_a341 w1, if_pos (by omega), e9]
          rw [e144]
          unfold sDie3
          by_cases y : S 9 k = x
          · have dn : S 8 k = tSize z.T k := by
              rcases iv.2.2.2.2.2.2.2 k hp.1 hp.2 with o | o
              · omega
              · exact o.1
            rw [if_pos y, if_pos y, e220_164]
            by_cases y2 : r = -2
            · obtain ⟨r4, f4⟩ := rk_u9 rr hp (v := -2) (I32_of (by decide))
              have w4 := r4.w
              have e187 : C (d + 2) 187 [(2, 311), (0, 0), (0, k), (0, -2)] h1 = some ((9, 0), st h1 341 (10 * 0 + k) (-2)) := by
                rw [ce_187, e187_0, if_pos (F_a311 w1), P_311_44 w1, if_pos (W_a341 w1), w10 (by decide) (by omega), L_a341 w1, if_pos (by omega), e187_12, if_pos (by decide), e187_27]
              obtain ⟨h', aa, ff, rest⟩ := ih (k + 1) _ _ r4 (by
                obtain ⟨j1, j2, j3, j4, j5, j6, j7, j8⟩ := iv
                exact ⟨j1, j2, j3, j4, j5, j6, j7, OWN_own j8 dn (Or.inl rfl)⟩) (by omega) (by omega)
              rw [if_pos y2] at aa ⊢
              rw [if_pos y2] at *
              refine ⟨h', ?_, FrA_tr f4 ff, rest⟩
              rw [if_pos rfl, e220_178, if_pos (F_a311 w1), Cl_eq _ e187, e220_181, wk1]
              exact aa
            · have q1 := (hrr.resolve_left y2).1
              obtain ⟨h4, a4, f4, r4⟩ := rk_187 rr iv.2.2.2.1 hp (x := r) (by omega) (d + 2)
              have w4 := r4.w
              obtain ⟨h', aa, ff, rest⟩ := ih (k + 1) _ _ r4 (IV_own iv dn (Or.inr q1)) (by omega) (by omega)
              rw [if_neg y2] at aa ⊢
              rw [if_neg y2]
              refine ⟨h', ?_, FrA_tr f4 ff, rest⟩
              rw [if_neg (by omega), e220_177, e220_178, if_pos (F_a311 w1), Cl_eq _ a4, e220_181, wk1]
              exact aa
          · rw [if_neg y, if_neg y, e220_181, wk1]
            exact ih (k + 1) S h1 rr iv (by omega) (by omega)
      obtain ⟨h', a4, f4, r4, iv4⟩ := pcs (z.T 2 0).toNat 0 _ h3 r3 iv3 (by decide) (by omega)
      have fA := FrA_tr f2 (FrA_tr f3 f4)
      refine ⟨h', by rw [e0, a3, a4], RR_gen c1 r4.w (fun y j e1 e2 => fA.2.2 y j (by unfold rz at e1; omega) (by unfold rz at e1; omega) (by unfold rz at e1; omega) e2) r4 iv4 ?_ ⟨Int.le_refl _, c.nb.2⟩, FrM_tr f0 (FrM_tr f1 (FrM_A fA))⟩
      rw [← eS]
      exact sDie_0 z.T z.S x 0
end BU
