/-! layer 2: the plain program: images, counts, gifts, what if -/
section KE
variable {h h' : Hp} {z : Zt} {n : Int}
theorem w100 {a : Int} (ha : 0 ≤ a ∧ a < 3) {p : Int} (hp : 0 ≤ p ∧ p < 100) : w32 (w32 (100 * a) + p) = 100 * a + p := by unfold w32; omega
theorem rk_179 (w : WF h) {t s : Int} (ht : 0 ≤ t ∧ t < 3) (hs : 0 ≤ s ∧ s < 3) (ne : t ≠ s) (d : Nat) : ∃ h', C d 179 [(2, 311), (0, t), (0, s)] h = some ((9, 0), h') ∧ WF h' ∧ h'.2 = h.2 ∧ (∀ x j, ¬ ((345 ≤ x ∧ x ≤ 347) ∧ 100 * t ≤ j ∧ j < 100 * t + 100) → ld h' x j = ld h x j) ∧ ∀ x j : Int, 345 ≤ x → x ≤ 347 → 0 ≤ j → j < 100 → ld h' x (100 * t + j) = ld h x (100 * s + j) := by
  have key : ∀ (m : Nat) (i : Int) (h1 : Hp), WF h1 → h1.2 = h.2 → (∀ x j, ¬ ((345 ≤ x ∧ x ≤ 347) ∧ 100 * t ≤ j ∧ j < 100 * t + 100) → ld h1 x j = ld h x j) → 0 ≤ i → i + m = 100 → (∀ x j : Int, 345 ≤ x → x ≤ 347 → 0 ≤ j → j < i → ld h1 x (100 * t + j) = ld h x (100 * s + j)) → ∃ h', V d 179 2 [(2, 311), (0, t), (0, s), (0, i)] [] h1 = some ((9, 0), h') ∧ WF h' ∧ h'.2 = h.2 ∧ (∀ x j, ¬ ((345 ≤ x ∧ x ≤ 347) ∧ 100 * t ≤ j ∧ j < 100 * t + 100) → ld h' x j = ld h x j) ∧ ∀ x j : Int, 345 ≤ x → x ≤ 347 → 0 ≤ j → j < 100 → ld h' x (100 * t + j) = ld h x (100 * s + j) := by
    intro m
    induction m with
    | zero =>
      intro i h1 w1 e2 f i0 hi c
      refine ⟨h1, ?_, w1, e2, f, fun x j a b u v => c x j a b u (by omega)⟩
      rw [e179_2, if_neg (by omega), e179_80]
    | succ m ih =>
      intro i h1 w1 e2 f i0 hi c
      have hi1 : 0 ≤ i ∧ i < 100 := by omega
      have ev : ∀ x, 345 ≤ x → x ≤ 347 → ld h1 x (100 * s + i) = ld h x (100 * s + i) := fun x u v => f x _ (by omega)
      have v2 : WF (st h1 345 (100 * t + i) (ld h 345 (100 * s + i))) := wf_st w1 (nA 345 (by decide +kernel) _)
      have v3 : WF (st (st h1 345 (100 * t + i) (ld h 345 (100 * s + i))) 346 (100 * t + i) (ld h 346 (100 * s + i))) := wf_st v2 (nA 346 (by decide +kernel) _)
      have v4 : WF (st (st (st h1 345 (100 * t + i) (ld h 345 (100 * s + i))) 346 (100 * t + i) (ld h 346 (100 * s + i))) 347 (100 * t + i) (ld h 347 (100 * s + i))) := wf_st v3 (nA 347 (by decide +kernel) _)
      have x2 : ld (st h1 345 (100 * t + i) (ld h 345 (100 * s + i))) 346 (100 * s + i) = ld h 346 (100 * s + i) := (ld_st_ne (Or.inl (by decide))).trans (ev 346 (by decide) (by decide))
      have x3 : ld (st (st h1 345 (100 * t + i) (ld h 345 (100 * s + i))) 346 (100 * t + i) (ld h 346 (100 * s + i))) 347 (100 * s + i) = ld h 347 (100 * s + i) := (ld_st_ne (Or.inl (by decide))).trans ((ld_st_ne (Or.inl (by decide))).trans (ev 347 (by decide) (by decide)))
      obtain ⟨h', aa, rest⟩ := ih (i + 1) _ v4 e2 (fun x j e => by rw [ld_st_ne (by omega), ld_st_ne (by omega), ld_st_ne (by omega)]; exact f x j e) (by omega) (by omega) (fun x j a b u v => by
        have hx : x = 345 ∨ x = 346 ∨ x = 347 := by omega
        by_cases y : j = i
        · rw [y]
          rcases hx with rfl | rfl | rfl
          · rw [ld_st_ne (Or.inl (by decide)), ld_st_ne (Or.inl (by decide)), ld_st_eq]
          · rw [ld_st_ne (Or.inl (by decide)), ld_st_eq]
          · rw [ld_st_eq]
        · rw [ld_st_ne (Or.inr (by omega)), ld_st_ne (Or.inr (by omega)), ld_st_ne (Or.inr (by omega))]
          exact c x j a b u (by omega))
      refine ⟨h', ?_, rest⟩
      rw [e179_2, if_pos (by omega), if_pos (F_a311 w1), if_pos (F_a311 w1), P_311_48 w1, if_pos (F_a345 w1), w100 hs hi1, L_a345 w1, if_pos (by omega), if_pos (W_a345 w1), w100 ht hi1, if_pos (by omega), ev 345 (by decide) (by decide), e179_30, if_pos (F_a311 v2), if_pos (F_a311 v2), P_311_49 v2, if_pos (F_a346 v2), w100 hs hi1, L_a346 v2, if_pos (by omega), if_pos (W_a346 v2), w100 ht hi1, if_pos (by omega), x2, e179_52, if_pos (F_a311 v3), if_pos (F_a311 v3), P_311_50 v3, if_pos (F_a347 v3), w100 hs hi1, L_a347 v3, if_pos (by omega), if_pos (W_a347 v3), w100 ht hi1, if_pos (by omega), x3, e179_74, show w32 (i + 1) = i + 1 by unfold w32; omega, aa]
  obtain ⟨h', a, rest⟩ := key 100 0 h w rfl (fun _ _ _ => rfl) (by decide) (by decide) (fun x j a b u v => by omega)
  exact ⟨h', by rw [ce_179, e179_0, a], rest⟩
theorem rk_238 (c : RR n h z) (d : Nat) : OPr n h z (d + 2) 238 [(2, 311)] 0 (zKeep z).1 n (zKeep z).2 := by
  obtain ⟨c0, f0⟩ := RR_0 c 0
  have w := c.k.w
  have w0 := c0.k.w
  have d0 := c.iv.2.2.2.2.1
  obtain ⟨h1, a1, f1, r1⟩ := rk_178 (t := 2) c0.k c.iv.2.2.2.1.2 (by decide) (by decide) (d + 1)
  have w1 := r1.w
  obtain ⟨h2, a2, w2, s2, f2, g2⟩ := rk_179 w1 (t := 2) (s := 0) (by decide) (by decide) (by decide) (d + 1)
  have w3 : WF (st h2 311 51 1) := wf_st w2 (n311 51 (by decide +kernel))
  have fr : ∀ x j, rz x j → ¬ inA 2 x j → ¬ ((345 ≤ x ∧ x ≤ 347) ∧ 200 ≤ j ∧ j < 300) → ¬ (x = 311 ∧ j = 51) → ld (st h2 311 51 1) x j = ld (st h 311 0 0) x j := fun x j e1 e2 e3 e4 => (ld_st_ne (by omega)).trans ((f2 x j (by omega)).trans (f1.2.2 x j (by unfold rz at e1; omega) (by unfold rz at e1; omega) (by unfold rz at e1; omega) e2))
  have fm : FrM h (st h2 311 51 1) := FrM_st (FrM_tr f0 (FrM_tr (FrM_A f1) ⟨s2, fun a j e => f2 a j (by omega)⟩)) (by decide) _ _
  have k2 : RK h2 2 z.T z.S := RK_eq r1 w2 (fun x j u v => f2 x j (by omega))
  have k0 : RK h2 0 z.T z.S := RK_eq (RK_o c0.k f1 (by decide) c.iv.2.2.2.1.2) w2 (fun x j u v => f2 x j (by omega))
  have e0 : C (d + 2) 238 [(2, 311)] h = some ((0, z.S 0 0), st h2 311 51 1) := by
    have k03 : RK (st h2 311 51 1) 0 z.T z.S := RK_eq k0 w3 (fun x j u v => ld_st_ne (Or.inl (by omega)))
    rw [ce_238, e238_0, if_pos (W_a311 w), if_pos (F_a311 w0), Cl_eq _ a1, e238_11, if_pos (F_a311 w1), Cl_eq _ a2, if_pos (W_a311 w2), if_pos (by decide), e238_22, if_pos (F_a311 w3), P_311_36 w3, if_pos (F_a333 w3), L_a333 w3, if_pos (by decide), rs0 k03]
  refine ⟨_, e0, ?_, fm⟩
  have k3 : ∀ a P, RK h2 a z.T P → RK (st h2 311 51 1) a z.T P := fun a P r => RK_eq r w3 (fun x j u v => ld_st_ne (Or.inl (by omega)))
  have lg : ∀ w t : Int, 0 ≤ w → w < 3 → 0 ≤ t → t < z.S 0 0 → ld (st h2 311 51 1) (345 + w) t = z.dg w t := fun w t w0 w1 t0 t1 => (fr _ _ (by unfold rz; omega) (by unfold inA; omega) (by omega) (by omega)).trans (c0.dg w t w0 w1 t0 t1)
  have g51 : ld (st h2 311 51 1) 311 51 = 1 := ld_st_eq _ _ _ _
  have lg2 : ∀ w t : Int, 0 ≤ w → w < 3 → 0 ≤ t → t < z.S 0 0 → ld (st h2 311 51 1) (345 + w) (200 + t) = z.dg w t := fun w t w0 w1 t0 t1 => by
    rw [ld_st_ne (Or.inl (by omega)), show (200 : Int) + t = 100 * 2 + t by omega, g2 (345 + w) t (by omega) (by omega) t0 (by omega), show (100 : Int) * 0 + t = t by omega, f1.2.2 _ _ (by omega) (by omega) (by omega) (by unfold inA; omega)]
    exact c0.dg w t w0 w1 t0 t1
  generalize st h2 311 51 1 = h3 at *
  generalize st h 311 0 0 = h0 at *
  have fa : ∀ x j, (312 ≤ x ∧ x ≤ 332) ∨ (352 ≤ x ∧ x ≤ 354) → ld h3 x j = ld h0 x j := fun x j e => fr x j (by unfold rz; omega) (by unfold inA; omega) (by omega) (by omega)
  have fb : ∀ j, (j = 2 ∨ j = 32 ∨ j = 33 ∨ j = 52 ∨ j = 53 ∨ j = 54 ∨ j = 67 ∨ j = 68) → ld h3 311 j = ld h0 311 j := fun j e => fr 311 j (by unfold rz; omega) (by unfold inA; omega) (by omega) (by omega)
  refine ⟨k3 _ _ k0, c.tx, c.iv, c.nb, fun j j0 j1 => (fa 312 j (by decide)).trans (c0.tp j j0 j1), (fb 2 (by decide)).trans c0.tn, (fb 32 (by decide)).trans c0.fk, (fb 33 (by decide)).trans c0.fp, (fa 313 6 (by decide)).trans c0.kk, (fun e => by cases e), fun I e => ?_, lg, (fb 52 (by decide)).trans c0.pz, c.pl, fun i P e => ?_, (fb 67 (by decide)).trans c0.sz, c.szb, (fb 68 (by decide)).trans c0.kb, c.kbb, fun k k0 k1 => ?_, (fb 53 (by decide)).trans c0.t53, (fb 54 (by decide)).trans c0.t54⟩
  · have e : some z.S = some I := e
    rw [← Option.some.inj e]
    exact ⟨g51, k3 _ _ k2, c.iv, Int.le_refl _, lg2⟩
  · obtain ⟨p1, p2, p3⟩ := c0.past i P e
    have hi : i < z.past.length := by
      rcases List.getElem?_eq_some_iff.mp e with ⟨q, -⟩; exact q
    have p4 : RK h3 (3 + ((z.past.length : Int) - 1 - (i : Int))) z.T P := k3 _ _ (RK_eq (RK_o p1 f1 (by omega) p2.2.2.2.1.2) w2 (fun x j u v => f2 x j (by omega)))
    exact ⟨p4, p2, p3⟩
  · have := c0.sk k k0 k1
    rw [fa 354 k (by decide), fa 352 k (by decide), fa 353 k (by decide)]
    exact this
theorem rk_239 (c : RR n h z) (d : Nat) : OPr n h z (d + 2) 239 [(2, 311)] 0 (zBack z).1 n (zBack z).2 := by
  obtain ⟨c0, f0⟩ := RR_0 c 0
  have w := c.k.w
  have w0 := c0.k.w
  have d0 := c.iv.2.2.2.2.1
  unfold zBack
  cases hi : z.im with
  | none => exact ⟨_, by rw [ce_239, e239_0, if_pos (W_a311 w), if_pos (F_a311 w0), c0.im0 hi, if_pos rfl, e239_12], c0, f0⟩
  | some I =>
    obtain ⟨i1, i2, i3, i4, i5⟩ := c0.im1 I hi
    obtain ⟨h1, a1, f1, r1⟩ := rk_178 (t := 0) i2 i3.2.2.2.1.2 (by decide) (by decide) (d + 1)
    have w1 := r1.w
    obtain ⟨h2, a2, w2, s2, f2, g2⟩ := rk_179 w1 (t := 0) (s := 2) (by decide) (by decide) (by decide) (d + 1)
    have dI := i3.2.2.2.2.1
    have w3 : WF (st h2 311 52 0) := wf_st w2 (n311 52 (by decide +kernel))
    have fr : ∀ x j, rz x j → ¬ inA 0 x j → ¬ ((345 ≤ x ∧ x ≤ 347) ∧ 0 ≤ j ∧ j < 100) → ¬ (x = 311 ∧ j = 52) → ld (st h2 311 52 0) x j = ld (st h 311 0 0) x j := fun x j e1 e2 e3 e4 => (ld_st_ne (by omega)).trans ((f2 x j (by omega)).trans (f1.2.2 x j (by unfold rz at e1; omega) (by unfold rz at e1; omega) (by unfold rz at e1; omega) e2))
    have fm : FrM h (st h2 311 52 0) := FrM_st (FrM_tr f0 (FrM_tr (FrM_A f1) ⟨s2, fun a j e => f2 a j (by omega)⟩)) (by decide) _ _
    have k0 : RK h2 0 z.T I := RK_eq r1 w2 (fun x j u v => f2 x j (by omega))
    have k2 : RK h2 2 z.T I := RK_eq (RK_o i2 f1 (by decide) i3.2.2.2.1.2) w2 (fun x j u v => f2 x j (by omega))
    have k3 : ∀ a P, RK h2 a z.T P → RK (st h2 311 52 0) a z.T P := fun a P r => RK_eq r w3 (fun x j u v => ld_st_ne (Or.inl (by omega)))
    have e0 : C (d + 2) 239 [(2, 311)] h = some ((0, I 0 0), st h2 311 52 0) := by
      rw [ce_239, e239_0, if_pos (W_a311 w), if_pos (F_a311 w0), i1, if_neg (by decide), e239_14, if_pos (F_a311 w0), Cl_eq _ a1, if_pos (F_a311 w1), Cl_eq _ a2, e239_26, if_pos (W_a311 w2), if_pos (F_a311 w3), P_311_36 w3, if_pos (F_a333 w3), L_a333 w3, if_pos (by decide), rs0 (k3 _ _ k0)]
    refine ⟨_, e0, ?_, fm⟩
    have g52 : ld (st h2 311 52 0) 311 52 = 0 := ld_st_eq _ _ _ _
    have lg : ∀ w t : Int, 0 ≤ w → w < 3 → 0 ≤ t → t < I 0 0 → ld (st h2 311 52 0) (345 + w) t = z.dg w t := fun w t w0 w1 t0 t1 => by
      have := g2 (345 + w) t (by omega) (by omega) t0 (by omega)
      rw [show (100 : Int) * 0 + t = t by omega, show (100 : Int) * 2 + t = 200 + t by omega] at this
      rw [ld_st_ne (Or.inl (by omega)), this, f1.2.2 _ _ (by omega) (by omega) (by omega) (by unfold inA; omega)]
      exact i5 w t w0 w1 t0 t1
    generalize st h2 311 52 0 = h3 at *
    generalize st h 311 0 0 = h0 at *
    have fa : ∀ x j, (312 ≤ x ∧ x ≤ 332) ∨ (352 ≤ x ∧ x ≤ 354) → ld h3 x j = ld h0 x j := fun x j e => fr x j (by unfold rz; omega) (by unfold inA; omega) (by omega) (by omega)
    have fb : ∀ j, (j = 2 ∨ j = 32 ∨ j = 33 ∨ j = 51 ∨ j = 53 ∨ j = 54 ∨ j = 67 ∨ j = 68) → ld h3 311 j = ld h0 311 j := fun j e => fr 311 j (by unfold rz; omega) (by unfold inA; omega) (by omega) (by omega)
    refine ⟨k3 _ _ k0, c.tx, i3, c.nb, fun j j0 j1 => (fa 312 j (by decide)).trans (c0.tp j j0 j1), (fb 2 (by decide)).trans c0.tn, (fb 32 (by decide)).trans c0.fk, (fb 33 (by decide)).trans c0.fp, (fa 313 6 (by decide)).trans c0.kk, fun e => (fb 51 (by decide)).trans (c0.im0 e), fun J e => ?_, lg, g52, Nat.zero_le _, (fun i P e => by cases i <;> cases e), (fb 67 (by decide)).trans c0.sz, c.szb, (fb 68 (by decide)).trans c0.kb, c.kbb, fun k k0 k1 => ?_, (fb 53 (by decide)).trans c0.t53, (fb 54 (by decide)).trans c0.t54⟩
    · have e : z.im = some J := e
      rw [hi] at e
      rw [← Option.some.inj e]
      exact ⟨(fb 51 (by decide)).trans i1, k3 _ _ k2, i3, Int.le_refl _, fun w t w0 w1 t0 t1 => (fr _ _ (by unfold rz; omega) (by unfold inA; omega) (by omega) (by omega)).trans (i5 w t w0 w1 t0 t1)⟩
    · have := c0.sk k k0 k1
      rw [fa 354 k (by decide), fa 352 k (by decide), fa 353 k (by decide)]
      exact this
theorem rk_240 (c : RR n h z) (x : Int) (d : Nat) : OPr n h z (d + 2) 240 [(2, 311), (0, x)] 0 (zCount x z) n z := by
  obtain ⟨c0, f0⟩ := RR_0 c 0
  have w := c.k.w
  have w0 := c0.k.w
  have hT := c.k.K
  have t1 := hT.2.1
  have sb := c.k.1.2.2.2.2.1
  refine ⟨_, ?_, c0, f0⟩
  unfold zCount
  rw [ce_240, e240_0, if_pos (W_a311 w), e240_7]
  by_cases q0 : x = 0
  · rw [if_pos q0, if_pos q0, e240_72, if_pos (F_a311 w0), P_311_3 w0, if_pos (F_a313 w0), L_a313 w0, if_pos (by decide), rt0 c0.k.1]
  rw [if_neg q0, if_neg q0]
  by_cases q1 : x = 1
  · rw [if_pos q1, if_pos q1, e240_79, if_pos (F_a311 w0), P_311_3 w0, if_pos (F_a313 w0), L_a313 w0, if_pos (by decide), rt1 c0.k.1]
  rw [if_neg q1, if_neg q1]
  by_cases q2 : x = 2
  · rw [if_pos q2, if_pos q2, e240_86, if_pos (F_a311 w0), P_311_3 w0, if_pos (F_a313 w0), L_a313 w0, if_pos (by decide), rt2 c0.k.1]
  rw [if_neg q2, if_neg q2]
  by_cases q3 : x = 3
  · rw [if_pos q3, if_pos q3, e240_93, if_pos (F_a311 w0), P_311_3 w0, if_pos (F_a313 w0), L_a313 w0, if_pos (by decide), rt3 c0.k.1]
  rw [if_neg q3, if_neg q3]
  by_cases q4 : x = 4
  · have e0 := lwN c.k.1 (k := 0) (by decide)
    have e1 := lwN c.k.1 (k := 1) (by decide)
    have e2 := lwN c.k.1 (k := 2) (by decide)
    have b0 := sb 0 (by decide) (by decide)
    have b1 := sb 1 (by decide) (by decide)
    have b2 := sb 2 (by decide) (by decide)
    have e0 : z.T 19 0 = ld h 330 0 - ld h 329 0 := e0
    have e1 : z.T 20 0 = ld h 330 1 - ld h 329 1 := e1
    have e2 : z.T 21 0 = ld h 330 2 - ld h 329 2 := e2
    have ek : tKnots z.T = z.T 19 0 + z.T 20 0 + z.T 21 0 := by unfold tKnots w32; omega
    rw [if_pos q4, if_pos q4, e240_100, if_pos (F_a311 w0), P_311_3 w0, if_pos (F_a313 w0), L_a313 w0, if_pos (by decide), c0.kk, ek]
  rw [if_neg q4, if_neg q4]
  by_cases q5 : x = 5
  · rw [if_pos q5, if_pos q5, e240_108, if_pos (F_a311 w0), P_311_36 w0, if_pos (F_a333 w0), L_a333 w0, if_pos (by decide), rs0 c0.k]
  rw [if_neg q5, if_neg q5]
  by_cases q6 : x = 6
  · rw [if_pos q6, if_pos q6, e240_115, if_pos (F_a311 w0), c0.sz]
  rw [if_neg q6, if_neg q6]
  by_cases q7 : x = 7
  · rw [if_pos q7, if_pos q7, e240_120, if_pos (F_a311 w0), Cl_eq _ (rk_232 c0 (d + 1))]
  rw [if_neg q7, if_neg q7]
  by_cases q8 : x = 8
  · rw [if_pos q8, if_pos q8, e240_125, if_pos (F_a311 w0), c0.pz]
  rw [if_neg q8, if_neg q8]
  by_cases q9 : x = 9
  · rw [if_pos q9, if_pos q9, e240_130, if_pos (F_a311 w0), P_311_37 w0, if_pos (F_a334 w0), L_a334 w0, if_pos (by decide), rs1 c0.k]
  rw [if_neg q9, if_neg q9]
  by_cases q10 : x = 10
  · rw [if_pos q10, if_pos q10, e240_137]
    unfold sPurses
    have key : ∀ (m : Nat) (k a : Int), 0 ≤ k → k + m = z.T 1 0 → V (d + 2) 240 139 [(2, 311), (9, 0), (0, a), (0, k)] [] (st h 311 0 0) = some ((0, smf (fun s => z.S 6 s) m k a), st h 311 0 0) := by
      intro m
      induction m with
      | zero =>
        intro k a k0 hk
        rw [e240_139, if_pos (F_a311 w0), P_311_3 w0, if_pos (F_a313 w0), L_a313 w0, if_pos (by decide), rt1 c0.k.1, if_neg (by omega), e240_164]
        rfl
      | succ m ih =>
        intro k a k0 hk
        have e6 := rs6 c0.k (i := k) ⟨k0, by omega⟩
        rw [show (5 : Int) * 0 + k = k by omega] at e6
        rw [e240_139, if_pos (F_a311 w0), P_311_3 w0, if_pos (F_a313 w0), L_a313 w0, if_pos (by decide), rt1 c0.k.1, if_pos (by omega), e240_149, if_pos (F_a311 w0), P_311_41 w0, if_pos (F_a338 w0), L_a338 w0, if_pos (by omega), e6, e240_158, show w32 (k + 1) = k + 1 by unfold w32; omega]
        exact ih (k + 1) _ (by omega) (by omega)
    exact key (z.T 1 0).toNat 0 0 (by decide) (by omega)
  rw [if_neg q10, if_neg q10]
  by_cases q11 : x = 11
  · rw [if_pos q11, if_pos q11, e240_166, if_pos (F_a311 w0), Cl_eq _ (rk_236 c0.k c0.iv d)]
  rw [if_neg q11, if_neg q11, e240_172]
theorem IV_give {T S : Wd} {s v : Int} (iv : IV n T S) (hs : 0 ≤ s ∧ s < 5) (hv : S 6 s ≤ v) (hb : v ≤ S 6 s + 999) : IV (n + 1) T (up2 S 6 s v) := by
  obtain ⟨i1, i2, i3, i⟩ := iv
  have h0 := i2 s hs.1 hs.2
  refine ⟨i1, fun s' a b => ?_, ?_, i⟩
  · show 0 ≤ (if (6 : Nat) = 6 ∧ s' = s then v else S 6 s')
    split
    · omega
    · exact i2 s' a b
  · rw [SUM_up hs]; omega
theorem rk_228 (c : RR n h z) (hn : n < 600) (s x : Int) (d : Nat) : OPr n h z (d + 2) 228 [(2, 311), (0, s), (0, x)] 0 (zGive s x z).1 (n + 1) (zGive s x z).2 := by
  obtain ⟨c0, f0⟩ := RR_0 c 0
  have w := c.k.w
  have w0 := c0.k.w
  have hT := c.k.K
  have t1 := hT.2.1
  unfold zGive
  have e0 : C (d + 2) 228 [(2, 311), (0, s), (0, x)] h = if bI (qSit z.T s) = 0 then some ((0, -1), st h 311 0 0) else if bI (qLiv z.S s) = 0 then some ((0, -1), st h 311 0 0) else if x < 1 then some ((0, -1), st h 311 0 0) else if 999 < x then some ((0, -1), st h 311 0 0) else V (d + 2) 228 34 [(2, 311), (0, s), (0, x)] [] (st h 311 0 0) := by
    rw [ce_228, e228_0, if_pos (W_a311 w), if_pos (F_a311 w0), Cl_eq _ (rk_180 c0.k.1 s (d + 1)), e228_48, e228_13, if_pos (F_a311 w0), Cl_eq _ (rk_183 c0.k s (d + 1)), e228_48, e228_22, e228_48]
  have rf : C (d + 2) 228 [(2, 311), (0, s), (0, x)] h = some ((0, -1), st h 311 0 0) → OPr n h z (d + 2) 228 [(2, 311), (0, s), (0, x)] 0 (-1) (n + 1) z := fun e => ⟨_, e, RR_mono c0 (by omega) (by omega), f0⟩
  generalize st h 311 0 0 = h0 at *
  cases hq : qSit z.T s with
  | false => rw [if_pos (Or.inl rfl)]; exact rf (by rw [e0, hq, if_pos bI_f])
  | true =>
    rw [hq, if_neg (by decide)] at e0
    cases hl : qLiv z.S s with
    | false => rw [if_pos (Or.inr (Or.inl rfl))]; exact rf (by rw [e0, hl, if_pos bI_f])
    | true =>
      rw [hl, if_neg (by decide)] at e0
      by_cases q1 : x < 1
      · rw [if_pos (Or.inr (Or.inr (Or.inl q1)))]; exact rf (by rw [e0, if_pos q1])
      by_cases q2 : 999 < x
      · rw [if_pos (Or.inr (Or.inr (Or.inr (Or.inl q2))))]; exact rf (by rw [e0, if_neg q1, if_pos q2])
      have hs := qSit_iff.mp hq
      have e6 := rs6 c0.k hs
      rw [show (5 : Int) * 0 + s = s by omega] at e6
      rw [if_neg q1, if_neg q2, e228_34, if_pos (F_a311 w0), P_311_41 w0, if_pos (F_a338 w0), L_a338 w0, if_pos (by omega), e6] at e0
      by_cases q3 : 9999 < w32 (z.S 6 s + x)
      · rw [if_pos (Or.inr (Or.inr (Or.inr (Or.inr q3))))]; exact rf (by rw [e0, if_pos q3, e228_48])
      rw [if_neg (by rintro (u | u | u | u | u); · cases u
                     · cases u
                     · exact q1 u
                     · exact q2 u
                     · exact q3 u)]
      rw [if_neg q3] at e0
      obtain ⟨h1, a1, c1, f1, -⟩ := rk_218 c0 d
      have w1 := c1.k.w
      have k1 : RK h1 0 z.T z.S := c1.k
      have b6 := c.iv.2.1 s hs.1 (by omega)
      have bS := SUM_le c.iv.2.1 (s := s) ⟨hs.1, by omega⟩
      have bs := c.iv.2.2.1
      have hw : w32 (z.S 6 s + x) = z.S 6 s + x := by unfold w32; omega
      obtain ⟨r2, f2⟩ := rk_u6 k1 hs (v := w32 (z.S 6 s + x)) (w32_I _)
      have e61 := rs6 k1 hs
      rw [show (5 : Int) * 0 + s = s by omega] at e61 r2 f2
      have w2 := r2.w
      refine ⟨_, ?_, RR_gen c1 w2 (fun x j e1 e2 => f2.2.2 x j (by unfold rz at e1; omega) (by unfold rz at e1; omega) (by unfold rz at e1; omega) e2) r2 (IV_give c.iv ⟨hs.1, by omega⟩ (by rw [hw]; omega) (by rw [hw]; omega)) rfl ⟨by omega, by omega⟩, FrM_tr f0 (FrM_tr f1 (FrM_A f2))⟩
      rw [e0, e228_50, if_pos (F_a311 w0), Cl_eq _ a1, if_pos (F_a311 w1), P_311_41 w1, if_pos (F_a338 w1), L_a338 w1, if_pos (by omega), if_pos (W_a338 w1), if_pos (by omega), e61, e228_64, if_pos (F_a311 w2), P_311_41 w2, if_pos (F_a338 w2), L_a338 w2, if_pos (by omega), ld_st_eq]
end KE
