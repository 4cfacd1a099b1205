/-! layer 2: the plain program: what a law says -/
/-- how many values wait: from m on, one at the end -/
def kdp (so va : Int → Int) : Nat → Int → Nat → Bool
  | 0, _, m => decide (m = 1)
  | n + 1, k, m => if so k = 0 ∨ so k = 1 then kdp so va n (k + 1) (m + 1) else if va k = 260 then decide (1 ≤ m) && kdp so va n (k + 1) m else decide (2 ≤ m) && kdp so va n (k + 1) (m - 1)
def LWF (T : Wd) : Prop := ∀ k : Nat, k < 3 → (∀ i : Int, 0 ≤ i → i < T (19 + k) 0 → (T (22 + 2 * k) i = 0 ∨ T (22 + 2 * k) i = 1 ∨ T (22 + 2 * k) i = 2) ∧ (T (22 + 2 * k) i = 1 → 0 ≤ T (23 + 2 * k) i ∧ T (23 + 2 * k) i < 7)) ∧ (0 < T (19 + k) 0 → kdp (T (22 + 2 * k)) (T (23 + 2 * k)) (T (19 + k) 0).toNat 0 0 = true)
section AK
variable {h h' : Hp} {a : Int} {T S : Wd}
theorem I32_okv {v : Int} (hv : I32 v) : okv v := by
  have : LM = 1000000000000 := rfl
  unfold okv; unfold I32 at hv; omega
theorem kstep_2 (nm : Int → Int) (va : Int) (l : List Int) : kstep nm 2 va l = kstep (fun _ => 0) 2 va l := rfl
theorem kstep_len {nm : Int → Int} {va : Int} {l l' : List Int} (e : kstep nm 2 va l = some l') : l'.length = if va = 260 then l.length else l.length - 1 := by
  unfold kstep at e
  rw [if_neg (by decide), if_neg (by decide)] at e
  by_cases q : va = 260
  · rw [if_pos q] at e ⊢
    cases l with
    | nil => cases e
    | cons y r => rw [← Option.some.inj e]; rfl
  · rw [if_neg q] at e ⊢
    cases l with
    | nil => cases e
    | cons y r =>
      cases r with
      | nil => cases e
      | cons x r =>
        dsimp only at e
        cases hj : jn va x y with
        | none => rw [hj] at e; cases e
        | some v => rw [hj] at e; rw [← Option.some.inj e]; simp
theorem rk_191l {k : Int} (hk : 0 ≤ k ∧ k < 3) {f N : Int} (hf : 0 ≤ f) (hN : f + N ≤ 64) {nm so va : Int → Int} (hso : ∀ i, 0 ≤ i → i < N → (so i = 0 ∨ so i = 1 ∨ so i = 2) ∧ (so i = 1 → 0 ≤ va i ∧ va i < 7) ∧ okv (va i)) (hnm : ∀ j, 0 ≤ j → j < 7 → okv (nm j)) (d : Nat) : ∀ (n : Nat) (i : Int) (l : List Int) (h : Hp), WF h → 0 ≤ i → i + n = N → ld h 330 k = f + N → (∀ i, 0 ≤ i → i < N → ld h 331 (f + i) = so i ∧ ld h 332 (f + i) = va i) → (∀ j, 0 ≤ j → j < 7 → ld h 348 j = nm j) → ld h 311 57 = (l.length : Int) → stk h 349 l.length = l → (∀ v ∈ l, okv v) → (l.length : Int) ≤ i → kdp so va n i l.length = true → ∃ q h', V (d + 3) 191 12 [(2, 311), (0, k), (0, f + i)] [] h = some ((0, q), h') ∧ FrV h h' ∧ StA q h' (krun nm so va n i l) := by
  intro n
  induction n with
  | zero =>
    intro i l h w i0 hi h330 ht hn h57 hs hv hli hkd
    refine ⟨1, h, ?_, FrV_rf w, rfl, h57, hs, hv⟩
    rw [e191_12, if_pos (F_a311 w), P_311_20 w, if_pos (F_a330 w), L_a330 w, if_pos (by omega), h330, if_neg (by omega), e191_102, if_pos (by decide)]
  | succ n ih =>
    intro i l h w i0 hi h330 ht hn h57 hs hv hli hkd
    obtain ⟨o1, o2, o3⟩ := hso i i0 (by omega)
    obtain ⟨t1, t2⟩ := ht i i0 (by omega)
    have wk1 : w32 (f + i + 1) = f + (i + 1) := by unfold w32; omega
    have e12 : V (d + 3) 191 12 [(2, 311), (0, k), (0, f + i)] [] h = if so i = 2 then V (d + 3) 191 32 [(2, 311), (0, k), (0, f + i)] [] h else V (d + 3) 191 47 [(2, 311), (0, k), (0, f + i)] [] h := by
      rw [e191_12, if_pos (F_a311 w), P_311_20 w, if_pos (F_a330 w), L_a330 w, if_pos (by omega), h330, if_pos (by omega), e191_22, if_pos (F_a311 w), P_311_21 w, if_pos (F_a331 w), L_a331 w, if_pos (by omega), t1]
    show ∃ q h', _ ∧ _ ∧ StA q h' (match kstep nm (so i) (va i) l with | some l' => krun nm so va n (i + 1) l' | none => none)
    have push : ∀ v : Int, okv v → kdp so va n (i + 1) (l.length + 1) = true → ∃ q h', V (d + 3) 191 85 [(2, 311), (0, k), (0, f + i)] [(1, v), (0, (l.length : Int)), (2, 349)] h = some ((0, q), h') ∧ FrV h h' ∧ StA q h' (krun nm so va n (i + 1) (v :: l)) := by
      intro v ov hk2
      have f1 := FrV_49 (FrV_rf w) (l.length : Int) v
      have w1 := f1.1
      have g57 : ld (st h 349 (l.length : Int) v) 311 57 = (l.length : Int) := (ld_st_ne (Or.inl (by decide))).trans h57
      have f2 := FrV_57 f1 ((l.length : Int) + 1)
      have hln : (((v :: l).length : Nat) : Int) = (l.length : Int) + 1 := by rw [List.length_cons]; omega
      have gs : stk (st (st h 349 (l.length : Int) v) 311 57 ((l.length : Int) + 1)) 349 (v :: l).length = v :: l := by
        show ld (st (st h 349 (l.length : Int) v) 311 57 ((l.length : Int) + 1)) 349 (l.length : Int) :: stk (st (st h 349 (l.length : Int) v) 311 57 ((l.length : Int) + 1)) 349 l.length = v :: l
        rw [ld_st_ne (Or.inl (by decide)), ld_st_eq, stk_cong (h := st h 349 (l.length : Int) v) (fun j _ _ => ld_st_ne (Or.inl (by decide))), stk_st (Int.le_refl _), hs]
      obtain ⟨q, h', a, ff, sa⟩ := ih (i + 1) (v :: l) _ f2.1 (by omega) (by omega) ((f2.2.2 330 k (by decide) (by omega)).trans h330) (fun j j0 j1 => by rw [f2.2.2 331 _ (by decide) (by omega), f2.2.2 332 _ (by decide) (by omega)]; exact ht j j0 j1) (fun j j0 j1 => (f2.2.2 348 j (by decide) (by omega)).trans (hn j j0 j1)) (by rw [hln]; exact ld_st_eq _ _ _ _) gs (fun u hu => (List.mem_cons.mp hu).elim (fun z => by rw [z]; exact ov) (hv u)) (by omega) hk2
      refine ⟨q, h', ?_, FrV_tr f2 ff, sa⟩
      rw [e191_85, if_pos (W_a349 w), L_a349 w, if_pos (by omega), if_pos (F_a311 w1), if_pos (W_a311 w1), g57, show w32 ((l.length : Int) + 1) = (l.length : Int) + 1 by unfold w32; omega, e191_96, wk1]
      exact a
    have e47 : V (d + 3) 191 47 [(2, 311), (0, k), (0, f + i)] [] h = if so i = 0 then V (d + 3) 191 85 [(2, 311), (0, k), (0, f + i)] [(1, va i), (0, (l.length : Int)), (2, 349)] h else V (d + 3) 191 74 [(2, 311), (0, k), (0, f + i)] [(0, (l.length : Int)), (2, 349)] h := by
      rw [e191_47, if_pos (F_a311 w), if_pos (F_a311 w), if_pos (F_a311 w), P_311_21 w, if_pos (F_a331 w), L_a331 w, if_pos (by omega), t1]
      by_cases z : so i = 0
      · rw [if_pos z, if_pos z, if_pos (F_a311 w), P_311_22 w, if_pos (F_a332 w), L_a332 w, if_pos (by omega), t2, h57, P_311_56 w]
      · rw [if_neg z, if_neg z, h57, P_311_56 w]
    unfold kdp at hkd
    rcases o1 with o | o | o
    · rw [if_pos (Or.inl o)] at hkd
      rw [e12, if_neg (by omega), e47, if_pos o, show kstep nm (so i) (va i) l = some (va i :: l) by unfold kstep; rw [if_pos o]]
      exact push (va i) o3 hkd
    · rw [if_pos (Or.inr o)] at hkd
      obtain ⟨b0, b1⟩ := o2 o
      rw [e12, if_neg (by omega), e47, if_neg (by omega), e191_74, if_pos (F_a311 w), if_pos (F_a311 w), P_311_22 w, if_pos (F_a332 w), L_a332 w, if_pos (by omega), t2, P_311_55 w, if_pos (F_a348 w), L_a348 w, if_pos (by omega), hn _ b0 b1, show kstep nm (so i) (va i) l = some (nm (va i) :: l) by unfold kstep; rw [if_neg (by omega), if_pos o]]
      exact push _ (hnm _ b0 b1) hkd
    · rw [if_neg (by omega)] at hkd
      have n1 : va i = 260 → 1 ≤ l.length := fun z => by
        rw [if_pos z, Bool.and_eq_true, decide_eq_true_eq] at hkd; exact hkd.1
      have n2 : va i ≠ 260 → 2 ≤ l.length := fun z => by
        rw [if_neg z, Bool.and_eq_true, decide_eq_true_eq] at hkd; exact hkd.1
      obtain ⟨q1, h1, a1, f1, s1⟩ := rk_190 w (by omega) h57 hs hv n1 n2 d
      rw [e12, if_pos o, e191_32, if_pos (F_a311 w), P_311_22 w, if_pos (F_a332 w), L_a332 w, if_pos (by omega), if_pos (F_a311 w), t2, Cl_eq _ a1, o, kstep_2]
      cases hst : kstep (fun _ => 0) 2 (va i) l with
      | none =>
        rw [hst] at s1
        have s1 : q1 = 0 := s1
        rw [s1, if_pos rfl, e191_45, if_pos (by decide)]
        exact ⟨0, h1, rfl, f1, rfl⟩
      | some l' =>
        rw [hst] at s1
        obtain ⟨s1, s2, s3, s4⟩ := s1
        have hlen := kstep_len hst
        have hk3 : kdp so va n (i + 1) l'.length = true := by
          rw [hlen]
          by_cases z : va i = 260
          · rw [if_pos z, Bool.and_eq_true] at hkd; rw [if_pos z]; exact hkd.2
          · rw [if_neg z, Bool.and_eq_true] at hkd; rw [if_neg z]; exact hkd.2
        obtain ⟨q, h', aa, ff, sa⟩ := ih (i + 1) l' h1 f1.1 (by omega) (by omega) ((f1.2.2 330 k (by decide) (by omega)).trans h330) (fun j j0 j1 => by rw [f1.2.2 331 _ (by decide) (by omega), f1.2.2 332 _ (by decide) (by omega)]; exact ht j j0 j1) (fun j j0 j1 => (f1.2.2 348 j (by decide) (by omega)).trans (hn j j0 j1)) s2 s3 s4 (by rw [hlen]; split <;> omega) hk3
        refine ⟨q, h', ?_, FrV_tr f1 ff, sa⟩
        rw [s1, if_neg (by decide), e191_96, wk1]
        exact aa
/-- a well told sum leaves one value -/
theorem krun_one {nm so va : Int → Int} : ∀ (n : Nat) (k : Int) (l l' : List Int), (∀ i, k ≤ i → i < k + n → so i = 0 ∨ so i = 1 ∨ so i = 2) → kdp so va n k l.length = true → krun nm so va n k l = some l' → l'.length = 1
  | 0, k, l, l', _, e, r => by
    have r : some l = some l' := r
    rw [← Option.some.inj r]
    unfold kdp at e
    exact of_decide_eq_true e
  | n + 1, k, l, l', hs, e, r => by
    unfold krun at r
    unfold kdp at e
    rcases hs k (Int.le_refl _) (by omega) with o | o | o
    · rw [if_pos (Or.inl o)] at e
      rw [show kstep nm (so k) (va k) l = some (va k :: l) by unfold kstep; rw [if_pos o]] at r
      exact krun_one n (k + 1) (va k :: l) l' (fun i i0 i1 => hs i (by omega) (by omega)) e r
    · rw [if_pos (Or.inr o)] at e
      rw [show kstep nm (so k) (va k) l = some (nm (va k) :: l) by unfold kstep; rw [if_neg (by omega), if_pos o]] at r
      exact krun_one n (k + 1) (nm (va k) :: l) l' (fun i i0 i1 => hs i (by omega) (by omega)) e r
    · rw [if_neg (by omega)] at e
      rw [o] at r
      cases hst : kstep nm 2 (va k) l with
      | none => rw [hst] at r; cases r
      | some m =>
        rw [hst] at r
        have hlen := kstep_len hst
        refine krun_one n (k + 1) m l' (fun i i0 i1 => hs i (by omega) (by omega)) ?_ r
        rw [hlen]
        by_cases z : va k = 260
        · rw [if_pos z, Bool.and_eq_true] at e; rw [if_pos z]; exact e.2
        · rw [if_neg z, Bool.and_eq_true] at e; rw [if_neg z]; exact e.2
end AK
