/-! layer 2: the plain program: prices, picks -/
section PR
variable {h h' : Hp} {a : Int} {T S : Wd}
theorem RK_W (r : RK h a T S) (f : FrW h h') : RK h' a T S := RK_eq r f.1 (fun x j u v => f.2.2 x j (by omega) (by omega) (by omega))
theorem lwN (r : RT h T) {k : Nat} (hk : k < 3) : T (19 + k) 0 = ld h 330 (k : Int) - ld h 329 (k : Int) := by
  rw [← r.2.1]
  have h3 : k = 0 ∨ k = 1 ∨ k = 2 := by omega
  rcases h3 with rfl | rfl | rfl <;> rfl
theorem lwS (r : RT h T) {k : Nat} (hk : k < 3) {i : Int} (hi : 0 ≤ i ∧ i < T (19 + k) 0) : ld h 331 (ld h 329 (k : Int) + i) = T (22 + 2 * k) i ∧ ld h 332 (ld h 329 (k : Int) + i) = T (23 + 2 * k) i := by
  have e := lwN r hk
  rw [← r.2.1]
  have h3 : k = 0 ∨ k = 1 ∨ k = 2 := by omega
  rcases h3 with rfl | rfl | rfl
  · exact ⟨(rng_in (n := ld h 330 0 - ld h 329 0) (by rw [← show T (19 + 0) 0 = ld h 330 0 - ld h 329 0 from e]; exact hi)).symm, (rng_in (n := ld h 330 0 - ld h 329 0) (by rw [← show T (19 + 0) 0 = ld h 330 0 - ld h 329 0 from e]; exact hi)).symm⟩
  · exact ⟨(rng_in (n := ld h 330 1 - ld h 329 1) (by rw [← show T (19 + 1) 0 = ld h 330 1 - ld h 329 1 from e]; exact hi)).symm, (rng_in (n := ld h 330 1 - ld h 329 1) (by rw [← show T (19 + 1) 0 = ld h 330 1 - ld h 329 1 from e]; exact hi)).symm⟩
  · exact ⟨(rng_in (n := ld h 330 2 - ld h 329 2) (by rw [← show T (19 + 2) 0 = ld h 330 2 - ld h 329 2 from e]; exact hi)).symm, (rng_in (n := ld h 330 2 - ld h 329 2) (by rw [← show T (19 + 2) 0 = ld h 330 2 - ld h 329 2 from e]; exact hi)).symm⟩
theorem lwV_0 {k : Nat} {p s : Int} (e : ¬ 0 < T (19 + k) 0) : lwV T S k p s = none := by
  unfold lwV evl
  rw [show (T (19 + k) 0).toNat = 0 by omega]
  rfl
theorem nm_I (r : RK h a T S) {p s : Int} : ∀ j, I32 (nmV T S p s j) := by
  intro j
  have t2 := r.K.2.2.1
  have bd := cnf_bd (fun q => decide (S 9 q = s)) (T 2 0).toNat 0 0
  unfold nmV
  split
  · exact r.1.2.2.2.1 _ _
  split
  · exact w32_I _
  split
  · exact r.2.2.2 _ _
  split
  · unfold sOwned; exact I32_of (by omega)
  split
  · exact r.2.2.2 _ _
  split
  · exact imax_I (I32_of (by decide)) (w32_I _)
  · exact r.2.2.2 _ _
def LwA (q : Int) (h' : Hp) : Option Int → Prop
  | none => q = 0
  | some v => q = 1 ∧ ld h' 349 0 = v ∧ okv v
theorem rk_193 (r : RK h a T S) (lw : LWF T) {k : Nat} (hk : k < 3) (hl : 0 < T (19 + k) 0) {p s : Int} (hp : 0 ≤ p ∧ p < T 2 0) (hs : 0 ≤ s ∧ s < T 1 0) (d : Nat) : ∃ q h', C (d + 4) 193 [(2, 311), (0, (k : Int)), (0, a), (0, p), (0, s)] h = some ((0, q), h') ∧ FrW h h' ∧ LwA q h' (lwV T S k p s) := by
  have w := r.w
  obtain ⟨p1, p2, p3, p4, p5, p6⟩ := pieT r.K hp
  have t1 := r.K.2.1
  have ra := r.2.1
  have hs5 : 0 ≤ s ∧ s < 5 := by omega
  have sb := r.1.2.2.2.2.1 (k : Int) (by omega) (by omega)
  have eN := lwN r.1 hk
  obtain ⟨l1, l2⟩ := lw k hk
  have g1 := FrW_48 (FrW_rf w) 0 (T 5 (T 13 p))
  have r1 := RK_W r g1
  have g2 := FrW_48 g1 1 (w32 (T 6 (T 13 p) - S 8 p))
  have r2 := RK_W r g2
  have g3 := FrW_48 g2 2 (S 6 s)
  have r3 := RK_W r g3
  have g4 := FrW_48 g3 3 (sOwned T S s)
  have r4 := RK_W r g4
  have g5 := FrW_48 g4 4 (S 0 0)
  have r5 := RK_W r g5
  have g6 := FrW_48 g5 5 (imax 0 (w32 (T 14 p - S 0 0)))
  have r6 := RK_W r g6
  have g7 := FrW_48 g6 6 (S 7 p)
  have r7 := RK_W r g7
  have en : ∀ j, 0 ≤ j → j < 7 → ld (st (st (st (st (st (st (st h 348 0 (T 5 (T 13 p))) 348 1 (w32 (T 6 (T 13 p) - S 8 p))) 348 2 (S 6 s)) 348 3 (sOwned T S s)) 348 4 (S 0 0)) 348 5 (imax 0 (w32 (T 14 p - S 0 0)))) 348 6 (S 7 p)) 348 j = nmV T S p s j := by
    intro j j0 j1
    have hj : j = 0 ∨ j = 1 ∨ j = 2 ∨ j = 3 ∨ j = 4 ∨ j = 5 ∨ j = 6 := by omega
    rcases hj with rfl | rfl | rfl | rfl | rfl | rfl | rfl
    · iterate 6 rw [ld_st_ne (Or.inr (by decide))]
      rw [ld_st_eq]; rfl
    · iterate 5 rw [ld_st_ne (Or.inr (by decide))]
      rw [ld_st_eq]; rfl
    · iterate 4 rw [ld_st_ne (Or.inr (by decide))]
      rw [ld_st_eq]; rfl
    · iterate 3 rw [ld_st_ne (Or.inr (by decide))]
      rw [ld_st_eq]; rfl
    · iterate 2 rw [ld_st_ne (Or.inr (by decide))]
      rw [ld_st_eq]; rfl
    · rw [ld_st_ne (Or.inr (by decide)), ld_st_eq]; rfl
    · rw [ld_st_eq]; rfl
  have e0 : C (d + 4) 193 [(2, 311), (0, (k : Int)), (0, a), (0, p), (0, s)] h = V (d + 4) 193 136 [(2, 311), (0, (k : Int)), (9, 0), (9, 0), (9, 0)] [] (st (st (st (st (st (st (st h 348 0 (T 5 (T 13 p))) 348 1 (w32 (T 6 (T 13 p) - S 8 p))) 348 2 (S 6 s)) 348 3 (sOwned T S s)) 348 4 (S 0 0)) 348 5 (imax 0 (w32 (T 14 p - S 0 0)))) 348 6 (S 7 p)) := by
    rw [ce_193, e193_0, if_pos (F_a311 w), if_pos (F_a311 w), if_pos (F_a311 w), P_311_13 w, if_pos (F_a323 w), L_a323 w, if_pos (by omega), P_311_5 w, if_pos (F_a315 w), rt13 r.1 hp, L_a315 w, if_pos (by omega), P_311_55 w, if_pos (W_a348 w), L_a348 w, if_pos (by decide), rt5 r.1 p3, e193_18]
    have w1 := r1.w
    rw [if_pos (F_a311 w1), if_pos (F_a311 w1), if_pos (F_a311 w1), P_311_13 w1, if_pos (F_a323 w1), L_a323 w1, if_pos (by omega), P_311_6 w1, if_pos (F_a316 w1), rt13 r1.1 hp, L_a316 w1, if_pos (by omega), if_pos (F_a311 w1), P_311_43 w1, if_pos (F_a340 w1), w10 ra p1, L_a340 w1, if_pos (by omega), P_311_55 w1, if_pos (W_a348 w1), L_a348 w1, if_pos (by decide), rt6 r1.1 p3, rs8 r1 hp, e193_48]
    have w2 := r2.w
    rw [if_pos (F_a311 w2), if_pos (F_a311 w2), P_311_41 w2, if_pos (F_a338 w2), w5 ra hs5, L_a338 w2, if_pos (by omega), P_311_55 w2, if_pos (W_a348 w2), L_a348 w2, if_pos (by decide), rs6 r2 hs, e193_66]
    have w3 := r3.w
    rw [if_pos (F_a311 w3), if_pos (F_a311 w3), Cl_eq _ (rk_186 r3 s (d + 3)), P_311_55 w3, if_pos (W_a348 w3), L_a348 w3, if_pos (by decide), e193_80]
    have w4 := r4.w
    rw [if_pos (F_a311 w4), if_pos (F_a311 w4), P_311_36 w4, if_pos (F_a333 w4), L_a333 w4, if_pos (by omega), P_311_55 w4, if_pos (W_a348 w4), L_a348 w4, if_pos (by decide), rs0 r4, e193_93]
    have w5' := r5.w
    rw [if_pos (F_a311 w5'), if_pos (F_a311 w5'), P_311_14 w5', if_pos (F_a324 w5'), L_a324 w5', if_pos (by omega), if_pos (F_a311 w5'), P_311_36 w5', if_pos (F_a333 w5'), L_a333 w5', if_pos (by omega), Cl_eq _ (max243 (d + 3) _ _), P_311_55 w5', if_pos (W_a348 w5'), L_a348 w5', if_pos (by decide), rt14 r5.1 hp, rs0 r5, e193_117]
    have w6 := r6.w
    rw [if_pos (F_a311 w6), if_pos (F_a311 w6), P_311_42 w6, if_pos (F_a339 w6), w10 ra p1, L_a339 w6, if_pos (by omega), P_311_55 w6, if_pos (W_a348 w6), L_a348 w6, if_pos (by decide), rs7 r6 hp]
  generalize st (st (st (st (st (st (st h 348 0 (T 5 (T 13 p))) 348 1 (w32 (T 6 (T 13 p) - S 8 p))) 348 2 (S 6 s)) 348 3 (sOwned T S s)) 348 4 (S 0 0)) 348 5 (imax 0 (w32 (T 14 p - S 0 0)))) 348 6 (S 7 p) = h7 at *
  have w7 := r7.w
  have g8 := FrV_57 (FrV_rf w7) 0
  have r8 := RK_W r7 (FrW_V g8)
  have w8 := r8.w
  have hi : (T (19 + k) 0).toNat = T (19 + k) 0 := by omega
  have e329 : ld (st h7 311 57 0) 329 (k : Int) = ld h 329 (k : Int) := (g8.2.2 329 _ (by decide) (by omega)).trans (g7.2.2 329 _ (by decide) (by decide) (by omega))
  have e330 : ld (st h7 311 57 0) 330 (k : Int) = ld h 330 (k : Int) := (g8.2.2 330 _ (by decide) (by omega)).trans (g7.2.2 330 _ (by decide) (by decide) (by omega))
  obtain ⟨q, h', aa, ff, sa⟩ := rk_191l (k := (k : Int)) (by omega) (f := ld h 329 (k : Int)) (N := T (19 + k) 0) sb.1 (by omega) (nm := nmV T S p s) (so := T (22 + 2 * k)) (va := T (23 + 2 * k)) (fun i i0 i1 => ⟨(l1 i i0 i1).1, (l1 i i0 i1).2, I32_okv (r.1.2.2.2.1 _ _)⟩) (fun j j0 j1 => I32_okv (nm_I r j)) d (T (19 + k) 0).toNat 0 [] (st h7 311 57 0) w8 (by decide) (by omega) (by rw [e330]; omega) (fun i i0 i1 => by have := lwS r8.1 hk ⟨i0, i1⟩; rw [e329] at this; exact this) (fun j j0 j1 => (g8.2.2 348 j (by decide) (by omega)).trans (en j j0 j1)) (ld_st_eq _ _ _ _) rfl (fun v hv => by simp at hv) (by decide) (l2 hl)
  have hq : q = 0 ∨ q = 1 := by
    generalize krun _ _ _ _ _ _ = R at sa
    cases R with
    | none => exact Or.inl sa
    | some l => exact Or.inr sa.1
  refine ⟨q, h', ?_, FrW_tr g7 (FrW_tr (FrW_V g8) (FrW_V ff)), ?_⟩
  · have e191 : C (d + 3) 191 [(2, 311), (0, (k : Int))] h7 = some ((0, q), h') := by
      rw [ce_191, e191_0, if_pos (W_a311 w7), if_pos (F_a311 w8), P_311_19 w8, if_pos (F_a329 w8), L_a329 w8, if_pos (by omega), e329]
      rw [Int.add_zero] at aa
      exact aa
    rw [e0, e193_136, if_pos (F_a311 w7), Cl_eq _ e191, if_pos hq]
  · unfold lwV evl
    cases hR : krun (nmV T S p s) (T (22 + 2 * k)) (T (23 + 2 * k)) (T (19 + k) 0).toNat 0 [] with
    | none => rw [hR] at sa; exact sa
    | some l =>
      rw [hR] at sa
      obtain ⟨s1, s2, s3, s4⟩ := sa
      have h1 := krun_one _ _ _ _ (fun i i0 i1 => (l1 i i0 (by omega)).1) (l2 hl) hR
      match l, h1 with
      | [v], _ => exact ⟨s1, (List.cons.inj s3).1, s4 v List.mem_cons_self⟩
theorem rk_194 (v lo hi : Int) (hh : lo ≤ hi) (d : Nat) : C (d + 1) 194 [(1, v), (0, lo), (0, hi)] h = some ((0, w32 (imax lo (imin hi v))), h) := by
  rw [ce_194, e194_0, Cl_eq _ (show C d 246 [(1, hi), (1, v)] h = some ((1, imin hi v), h) by
    rw [ce_246, e246_0]
    simp only [lcm_g]
    unfold imin
    by_cases q : v < hi
    · rw [if_pos q, e246_10, e246_11]; split <;> first | rfl | omega
    · rw [if_neg q, e246_11]; split <;> first | rfl | (congr 3; omega)), Cl_eq _ (show C d 244 [(1, lo), (1, imin hi v)] h = some ((1, imax lo (imin hi v)), h) by
    rw [ce_244, e244_0]
    simp only [lcm_l]
    generalize imin hi v = u
    unfold imax
    by_cases q : lo < u
    · rw [if_pos q, e244_10, e244_11]; split <;> first | rfl | omega
    · rw [if_neg q, e244_11]; split <;> first | rfl | (congr 3; omega))]
theorem rk_195 (r : RK h a T S) (lw : LWF T) {p : Int} (hp : 0 ≤ p ∧ p < T 2 0) (d : Nat) : ∃ h', C (d + 5) 195 [(2, 311), (0, a), (0, p)] h = some ((0, sPrice T S p), h') ∧ FrW h h' := by
  have w := r.w
  obtain ⟨p1, p2, p3, p4, p5, p6⟩ := pieT r.K hp
  have e40 : ∀ h', RK h' a T S → V (d + 5) 195 40 [(2, 311), (9, 0), (0, p)] [] h' = some ((0, tBase T p), h') := fun h' r => by
    have w := r.w
    rw [e195_40, if_pos (F_a311 w), if_pos (F_a311 w), P_311_13 w, if_pos (F_a323 w), L_a323 w, if_pos (by omega), P_311_5 w, if_pos (F_a315 w), rt13 r.1 hp, L_a315 w, if_pos (by omega), rt5 r.1 p3, e195_51]
    rfl
  have e192 : C (d + 4) 192 [(2, 311), (0, 0)] h = some ((0, bI (decide (0 < T (19 + 0) 0))), h) := rk_192 r.1 (k := 0) (by decide) (d + 4)
  unfold sPrice
  rw [ce_195, e195_0, if_pos (F_a311 w), Cl_eq _ e192]
  by_cases q : 0 < T (19 + 0) 0
  · obtain ⟨q1, h1, a1, f1, l1⟩ := rk_193 r lw (k := 0) (by decide) q hp p2 d
    have a1 : C (d + 4) 193 [(2, 311), (0, 0), (0, a), (0, p), (0, T 12 p)] h = some ((0, q1), h1) := a1
    have r1 := RK_W r f1
    have w1 := r1.w
    rw [decide_eq_true q, if_neg (by decide), if_pos (F_a311 w), P_311_12 w, if_pos (F_a322 w), L_a322 w, if_pos (by omega), if_pos (F_a311 w), rt12 r.1 hp, Cl_eq _ a1, e195_21]
    cases hl : lwV T S 0 p (T 12 p) with
    | none =>
      rw [hl] at l1
      have l1 : q1 = 0 := l1
      rw [if_pos l1, e40 h1 r1]
      exact ⟨h1, rfl, f1⟩
    | some v =>
      rw [hl] at l1
      obtain ⟨b1, b2, b3⟩ := l1
      rw [if_neg (by omega), if_pos (F_a311 w1), P_311_56 w1, if_pos (F_a349 w1), L_a349 w1, if_pos (by decide), b2, Cl_eq _ (rk_194 v 1 999 (by decide) (d + 3)), e195_51]
      exact ⟨h1, rfl, f1⟩
  · rw [decide_eq_false q, if_pos bI_f, e40 h r, lwV_0 q]
    exact ⟨h, rfl, FrW_rf w⟩
theorem rk_196 (r : RK h a T S) (lw : LWF T) {p : Int} (hp : 0 ≤ p ∧ p < T 2 0) (d : Nat) : ∃ h', C (d + 6) 196 [(2, 311), (0, a), (0, p)] h = some ((0, bI (decide (ld h 311 53 = 4) || qPaid T S p)), h') ∧ FrW h h' := by
  have w := r.w
  obtain ⟨p1, p2, p3, p4, p5, p6⟩ := pieT r.K hp
  rw [ce_196, e196_0, if_pos (F_a311 w)]
  by_cases q : ld h 311 53 = 4
  · rw [if_pos q, e196_28, e196_33, if_pos (by decide), decide_eq_true q]
    exact ⟨h, rfl, FrW_rf w⟩
  · obtain ⟨h1, a1, f1⟩ := rk_195 r lw hp d
    rw [if_neg q, if_pos (F_a311 w), P_311_42 w, if_pos (F_a339 w), w10 r.2.1 p1, L_a339 w, if_pos (by have := r.2.1; omega), if_pos (F_a311 w), Cl_eq _ a1, rs7 r hp, decide_eq_false q]
    unfold qPaid
    by_cases z : S 7 p < sPrice T S p
    · rw [if_pos z, e196_32, e196_33, if_pos (by decide), decide_eq_true z]
      exact ⟨h1, rfl, f1⟩
    · rw [if_neg z, e196_28, e196_33, if_pos (by decide), decide_eq_false z]
      exact ⟨h1, rfl, f1⟩
theorem rk_197 (r : RK h a T S) (lw : LWF T) {p : Int} (hp : 0 ≤ p ∧ p < T 2 0) (d : Nat) : ∃ h', C (d + 5) 197 [(2, 311), (0, a), (0, p)] h = some ((1, sPick T S p), h') ∧ FrW h h' := by
  have w := r.w
  obtain ⟨p1, p2, p3, p4, p5, p6⟩ := pieT r.K hp
  have e192 := rk_192 r.1 (k := 1) (by decide) (d + 4)
  have sb := r.1.2.2.2.2.1 1 (by decide) (by decide)
  have eN : T 20 0 = ld h 330 1 - ld h 329 1 := lwN r.1 (k := 1) (by decide)
  unfold sPick
  have e192' : C (d + 4) 192 [(2, 311), (0, 1)] h = some ((0, bI (decide (0 < T 20 0))), h) := e192
  rw [ce_197, e197_0, if_pos (F_a311 w), Cl_eq _ e192']
  by_cases q : 0 < T 20 0
  · obtain ⟨q1, h1, a1, f1, l1⟩ := rk_193 r lw (k := 1) (by decide) q hp p2 d
    have r1 := RK_W r f1
    have w1 := r1.w
    have a1 : C (d + 4) 193 [(2, 311), (0, 1), (0, a), (0, p), (0, T 12 p)] h = some ((0, q1), h1) := a1
    rw [decide_eq_true q, if_neg (by decide), if_neg (by omega), e197_12, if_pos (F_a311 w), P_311_12 w, if_pos (F_a322 w), L_a322 w, if_pos (by omega), if_pos (F_a311 w), rt12 r.1 hp, Cl_eq _ a1]
    cases hl : lwV T S 1 p (T 12 p) with
    | none =>
      rw [hl] at l1
      have l1 : q1 = 0 := l1
      rw [if_pos l1, e197_37, e197_38]
      exact ⟨h1, rfl, f1⟩
    | some v =>
      rw [hl] at l1
      obtain ⟨b1, b2, b3⟩ := l1
      rw [if_neg (by omega), e197_28, if_pos (F_a311 w1), P_311_56 w1, if_pos (F_a349 w1), L_a349 w1, if_pos (by decide), b2, e197_38]
      exact ⟨h1, rfl, f1⟩
  · rw [decide_eq_false q, if_pos bI_f, e197_38, if_pos (by omega)]
    exact ⟨h, rfl, FrW_rf w⟩
def rCan (T S : Wd) (w4 : Bool) (p : Int) : Bool := (w4 || qPaid T S p) && !qLap S p && !qFull T S p && qLiv S (T 12 p)
theorem rk_198 (r : RK h a T S) (lw : LWF T) {p : Int} (hp : 0 ≤ p ∧ p < T 2 0) (d : Nat) : ∃ h', C (d + 7) 198 [(2, 311), (0, a), (0, p)] h = some ((0, bI (rCan T S (decide (ld h 311 53 = 4)) p)), h') ∧ FrW h h' := by
  have w := r.w
  obtain ⟨p1, p2, p3, p4, p5, p6⟩ := pieT r.K hp
  obtain ⟨h1, a1, f1⟩ := rk_196 r lw hp d
  have r1 := RK_W r f1
  have w1 := r1.w
  have e45 : V (d + 7) 198 45 [(9, 0), (9, 0), (9, 0)] [] h1 = some ((0, 0), h1) := by rw [e198_45, e198_46, if_pos (by decide)]
  refine ⟨h1, ?_, f1⟩
  unfold rCan
  rw [ce_198, e198_0, if_pos (F_a311 w), Cl_eq _ a1]
  cases decide (ld h 311 53 = 4) || qPaid T S p with
  | false => rw [if_pos bI_f, e45]; rfl
  | true =>
    rw [if_neg (by decide), e198_9, if_pos (F_a311 w1), Cl_eq _ (rk_184 r1 p (d + 6))]
    cases qLap S p with
    | true => rw [if_neg (by decide), e45]; rfl
    | false =>
      rw [if_pos bI_f, e198_18, if_pos (F_a311 w1), Cl_eq _ (rk_185 r1 hp (d + 6))]
      cases qFull T S p with
      | true => rw [if_neg (by decide), e45]; rfl
      | false =>
        rw [if_pos bI_f, e198_27, if_pos (F_a311 w1), P_311_12 w1, if_pos (F_a322 w1), L_a322 w1, if_pos (by omega), if_pos (F_a311 w1), rt12 r1.1 hp, Cl_eq _ (rk_183 r1 (T 12 p) (d + 6))]
        cases qLiv S (T 12 p) with
        | false => rw [if_pos bI_f, e45]; rfl
        | true => rw [if_neg (by decide), e198_41, e198_46, if_pos (by decide)]; rfl
end PR
