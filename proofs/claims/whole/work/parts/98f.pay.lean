/-! layer 2: the plain program: a day's payments -/
def SUM (S : Wd) : Int := S 6 0 + S 6 1 + S 6 2 + S 6 3 + S 6 4
/-- who owns a piece: nobody, or it is done -/
def OWN (T S : Wd) : Prop := ∀ p, 0 ≤ p → p < T 2 0 → S 9 p = -1 ∨ (S 8 p = tSize T p ∧ (S 9 p = -2 ∨ (0 ≤ S 9 p ∧ S 9 p < T 1 0)))
/-- what holds of a studio between two calls -/
def IV (n : Int) (T S : Wd) : Prop := (∀ p, 0 ≤ p → p < T 2 0 → (0 ≤ S 8 p ∧ S 8 p ≤ tSize T p) ∧ (0 ≤ S 7 p ∧ S 7 p ≤ 999) ∧ (qLap S p = true → T 14 p < S 0 0)) ∧ (∀ s, 0 ≤ s → s < 5 → 0 ≤ S 6 s) ∧ SUM S ≤ 1000 * (n + 10) ∧ (0 ≤ S 5 0 ∧ S 5 0 ≤ 40) ∧ (0 ≤ S 0 0 ∧ S 0 0 ≤ 100) ∧ (0 ≤ S 3 0 ∧ S 3 0 < 1024) ∧ (0 ≤ S 2 0 ∧ S 2 0 < 32) ∧ OWN T S
def TX (T : Wd) : Prop := LWF T ∧ ∀ s, 0 ≤ s → s < T 1 0 → (0 ≤ T 8 s ∧ T 8 s ≤ 999) ∧ (0 ≤ T 9 s ∧ T 9 s ≤ 99)
section RP
variable {h h' : Hp} {a n : Int} {T S : Wd}
theorem qFull_D (iv : IV n T S) {p : Int} (hp : 0 ≤ p ∧ p < T 2 0) : qFull T S p = qDone T S p := by
  have := (iv.1 p hp.1 hp.2).1
  unfold qFull qDone
  by_cases q : S 8 p = tSize T p
  · rw [decide_eq_true q, decide_eq_false (by omega)]; rfl
  · rw [decide_eq_false q, decide_eq_true (by omega)]; rfl
theorem SUM_up {S : Wd} {s v : Int} (hs : 0 ≤ s ∧ s < 5) : SUM (up2 S 6 s v) = SUM S - S 6 s + v := by
  have h5 : s = 0 ∨ s = 1 ∨ s = 2 ∨ s = 3 ∨ s = 4 := by omega
  unfold SUM up2
  rcases h5 with rfl | rfl | rfl | rfl | rfl <;> simp <;> omega
theorem SUM_le {S : Wd} (h0 : ∀ s, 0 ≤ s → s < 5 → 0 ≤ S 6 s) {s : Int} (hs : 0 ≤ s ∧ s < 5) : S 6 s ≤ SUM S := by
  have h5 : s = 0 ∨ s = 1 ∨ s = 2 ∨ s = 3 ∨ s = 4 := by omega
  have a0 := h0 0 (by decide) (by decide)
  have a1 := h0 1 (by decide) (by decide)
  have a2 := h0 2 (by decide) (by decide)
  have a3 := h0 3 (by decide) (by decide)
  have a4 := h0 4 (by decide) (by decide)
  unfold SUM
  rcases h5 with rfl | rfl | rfl | rfl | rfl <;> omega
theorem sPrice_b {p : Int} (hT : TOK T) (hp : 0 ≤ p ∧ p < T 2 0) : 1 ≤ sPrice T S p ∧ sPrice T S p ≤ 999 := by
  obtain ⟨p1, p2, p3, -⟩ := pieT hT hp
  have b := (hT.2.2.2.2.2.2 (T 13 p) p3.1 p3.2).1
  unfold sPrice
  split
  · unfold tBase; omega
  · rename_i v _
    have : 1 ≤ imax 1 (imin 999 v) ∧ imax 1 (imin 999 v) ≤ 999 := by unfold imax imin; split <;> split <;> omega
    unfold w32; omega
/-- s gives at most m -/
theorem rk_199 (r : RK h a T S) {s m : Int} (hs : 0 ≤ s ∧ s < T 1 0) (skip : Int) (hk : skip = if ld h 311 53 = 1 then ld h 311 54 else -1) (hm : 0 ≤ m) (hp : 0 ≤ S 6 s) (hI : I32 m) (d : Nat) : ∃ h', C (d + 1) 199 [(2, 311), (0, a), (0, s), (0, m)] h = some ((0, (sTake T S s m skip).2), h') ∧ FrA a h h' ∧ RK h' a T (sTake T S s m skip).1 := by
  have w := r.w
  have ra := r.2.1
  have t1 := r.K.2.1
  have hs5 : 0 ≤ s ∧ s < 5 := by omega
  have hq : qSit T s = true := qSit_iff.mpr hs
  have e18 : V (d + 1) 199 18 [(2, 311), (0, a), (0, s), (0, m), (9, 0)] [] h = some ((0, imin m (S 6 s)), st h 338 (5 * a + s) (w32 (S 6 s - imin m (S 6 s)))) := by
    rw [e199_18, if_pos (F_a311 w), P_311_41 w, if_pos (F_a338 w), w5 ra hs5, L_a338 w, if_pos (by omega), rs6 r hs, Cl_eq _ (min245 d _ _), e199_34, if_pos (F_a311 w), P_311_41 w, if_pos (F_a338 w), w5 ra hs5, L_a338 w, if_pos (by omega), if_pos (W_a338 w), if_pos (by omega), rs6 r hs, e199_49]
  obtain ⟨r1, f1⟩ := rk_u6 r hs (v := w32 (S 6 s - imin m (S 6 s))) (w32_I _)
  have take : ¬ s = skip → C (d + 1) 199 [(2, 311), (0, a), (0, s), (0, m)] h = V (d + 1) 199 18 [(2, 311), (0, a), (0, s), (0, m), (9, 0)] [] h → ∃ h', C (d + 1) 199 [(2, 311), (0, a), (0, s), (0, m)] h = some ((0, (sTake T S s m skip).2), h') ∧ FrA a h h' ∧ RK h' a T (sTake T S s m skip).1 := fun z e => by
    have es : sTake T S s m skip = (up2 S 6 s (w32 (S 6 s - imin m (S 6 s))), imin m (S 6 s)) := by unfold sTake; rw [if_pos ⟨hq, z⟩]
    rw [es]
    exact ⟨_, e.trans e18, f1, r1⟩
  by_cases q : ld h 311 53 = 1
  · rw [if_pos q] at hk
    by_cases z : ld h 311 54 = s
    · refine ⟨h, ?_, FrA_rf w, ?_⟩
      · rw [ce_199, e199_0, if_pos (F_a311 w), if_pos q, if_pos (F_a311 w), if_pos z, e199_16]
        unfold sTake; rw [if_neg (fun y => y.2 (by omega))]
      · unfold sTake; rw [if_neg (fun y => y.2 (by omega))]; exact r
    · exact take (by omega) (by rw [ce_199, e199_0, if_pos (F_a311 w), if_pos q, if_pos (F_a311 w), if_neg z])
  · rw [if_neg q] at hk
    exact take (by omega) (by rw [ce_199, e199_0, if_pos (F_a311 w), if_neg q])
/-- what is taken -/
theorem take_v {s m skip : Int} (hm : 0 ≤ m) (hp : 0 ≤ S 6 s) : 0 ≤ (sTake T S s m skip).2 ∧ (sTake T S s m skip).2 ≤ m := by
  unfold sTake
  split
  · show 0 ≤ imin m (S 6 s) ∧ imin m (S 6 s) ≤ m; unfold imin; split <;> omega
  · exact ⟨Int.le_refl 0, hm⟩
theorem take_6 {s m skip : Int} (hs : 0 ≤ s ∧ s < 5) (hm : 0 ≤ m) (hp : ∀ s, 0 ≤ s → s < 5 → 0 ≤ S 6 s) (hb : S 6 s ≤ 2000000) : (∀ s', 0 ≤ s' → s' < 5 → 0 ≤ (sTake T S s m skip).1 6 s') ∧ SUM (sTake T S s m skip).1 ≤ SUM S := by
  have h0 := hp s hs.1 hs.2
  unfold sTake
  split
  · have hi : 0 ≤ imin m (S 6 s) ∧ imin m (S 6 s) ≤ S 6 s := by unfold imin; split <;> omega
    have hw : w32 (S 6 s - imin m (S 6 s)) = S 6 s - imin m (S 6 s) := by unfold w32; omega
    refine ⟨fun s' a0 a1 => ?_, ?_⟩
    · show 0 ≤ (if (6 : Nat) = 6 ∧ s' = s then _ else S 6 s')
      split
      · rw [hw]; omega
      · exact hp s' a0 a1
    · show SUM (up2 S 6 s _) ≤ _
      rw [SUM_up hs, hw]; omega
  · exact ⟨hp, Int.le_refl _⟩
theorem take_o (T S : Wd) (s m skip : Int) {f : Nat} (hf : f ≠ 6) (i : Int) : (sTake T S s m skip).1 f i = S f i := by
  unfold sTake
  split
  · show (if f = 6 ∧ i = s then _ else S f i) = _
    rw [if_neg (fun z => hf z.1)]
  · rfl
theorem take_e (T S : Wd) (s m skip : Int) {i : Int} (hi : i ≠ s) : (sTake T S s m skip).1 6 i = S 6 i := by
  unfold sTake
  split
  · show (if (6 : Nat) = 6 ∧ i = s then _ else S 6 i) = _
    rw [if_neg (fun z => hi z.2)]
  · rfl
/-- two purses: the order does not matter -/
theorem take_c (T S : Wd) {s t m k skip : Int} (hst : s ≠ t) : (sTake T (sTake T S s m skip).1 t k skip).1 = (sTake T (sTake T S t k skip).1 s m skip).1 ∧ (sTake T (sTake T S s m skip).1 t k skip).2 = (sTake T S t k skip).2 ∧ (sTake T (sTake T S t k skip).1 s m skip).2 = (sTake T S s m skip).2 := by
  have e1 := take_e T S s m skip (i := t) (fun z => hst z.symm)
  have e2 := take_e T S t k skip (i := s) hst
  unfold sTake at e1 e2 ⊢
  by_cases q1 : qSit T s = true ∧ ¬ s = skip
  · by_cases q2 : qSit T t = true ∧ ¬ t = skip
    · simp only [if_pos q1, if_pos q2] at e1 e2 ⊢
      refine ⟨?_, by rw [e1], by rw [e2]⟩
      funext f i
      rw [e1, e2]
      unfold up2
      by_cases z1 : f = 6 ∧ i = t
      · rw [if_pos z1, if_neg (fun z => hst (z.2.symm.trans z1.2)), if_pos z1]
      · rw [if_neg z1]
        by_cases z2 : f = 6 ∧ i = s
        · rw [if_pos z2, if_pos z2]
        · rw [if_neg z2, if_neg z2, if_neg z1]
    · simp only [if_pos q1, if_neg q2]; exact ⟨trivial, trivial, trivial⟩
  · by_cases q2 : qSit T t = true ∧ ¬ t = skip
    · simp only [if_neg q1, if_pos q2]; exact ⟨trivial, trivial, trivial⟩
    · simp only [if_neg q1, if_neg q2]; exact ⟨trivial, trivial, trivial⟩
end RP
