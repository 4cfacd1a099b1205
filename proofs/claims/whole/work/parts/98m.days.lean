/-! layer 2: the plain program: days, what if, seen -/
section DA
variable {h h' : Hp} {z : Zt} {n : Int}
theorem RR_gen2 (c : RR n h z) (w' : WF h') (fr : ∀ x j, rz x j → ¬ inA 1 x j → ¬ ((345 ≤ x ∧ x ≤ 347) ∧ 100 ≤ j ∧ j < 200) → ld h' x j = ld h x j) : RR n h' z := by
  have fa : ∀ x j, (x = 312 ∨ x = 313 ∨ (352 ≤ x ∧ x ≤ 354)) → ld h' x j = ld h x j := fun x j e => fr x j (by unfold rz; omega) (by unfold inA; omega) (by omega)
  have fb : ∀ j, (j = 2 ∨ j = 32 ∨ j = 33 ∨ j = 51 ∨ j = 52 ∨ j = 53 ∨ j = 54 ∨ j = 67 ∨ j = 68) → ld h' 311 j = ld h 311 j := fun j e => fr 311 j (by unfold rz; omega) (by unfold inA; omega) (by omega)
  have rt : RT h' z.T := RT_eq c.k.1 w' (fun x j u v => fr x j (by unfold rz; omega) (by unfold inA; omega) (by omega))
  have fo : ∀ a P, RK h a z.T P → a ≠ 1 → P 5 0 ≤ 40 → RK h' a z.T P := fun a P r ha h5 => by
    have t1 := r.K.2.1
    have t2 := r.K.2.2.1
    have ra := r.2.1
    have k5 := rs5 r
    have e1 : ∀ x, (333 ≤ x ∧ x ≤ 337) ∨ x = 342 → ld h' x a = ld h x a := fun x e => fr x a (by unfold rz; omega) (by unfold inA; omega) (by omega)
    refine ⟨rt, ra, ?_, r.2.2.2⟩
    rw [← r.2.2.1]
    exact sR_cp (e1 333 (by decide)) (e1 334 (by decide)) (e1 335 (by decide)) (e1 336 (by decide)) (e1 337 (by decide)) (e1 342 (by decide)) (fun i i0 i1 => fr 338 _ (by unfold rz; omega) (by unfold inA; omega) (by omega)) (fun i i0 i1 => fr 339 _ (by unfold rz; omega) (by unfold inA; omega) (by omega)) (fun i i0 i1 => fr 340 _ (by unfold rz; omega) (by unfold inA; omega) (by omega)) (fun i i0 i1 => fr 341 _ (by unfold rz; omega) (by unfold inA; omega) (by omega)) (fun i i0 i1 => fr 343 _ (by unfold rz; omega) (by unfold inA; omega) (by omega)) (fun i i0 i1 => fr 344 _ (by unfold rz; omega) (by unfold inA; omega) (by omega))
  have d0 := c.iv.2.2.2.2.1
  refine ⟨fo 0 z.S c.k (by decide) c.iv.2.2.2.1.2, c.tx, c.iv, c.nb, fun j j0 j1 => (fa 312 j (by decide)).trans (c.tp j j0 j1), (fb 2 (by decide)).trans c.tn, (fb 32 (by decide)).trans c.fk, (fb 33 (by decide)).trans c.fp, (fa 313 6 (by decide)).trans c.kk, fun e => (fb 51 (by decide)).trans (c.im0 e), fun I e => ?_, fun w t w0 w1 t0 t1 => (fr _ _ (by unfold rz; omega) (by unfold inA; omega) (by omega)).trans (c.dg w t w0 w1 t0 t1), (fb 52 (by decide)).trans c.pz, c.pl, fun i P e => ?_, (fb 67 (by decide)).trans c.sz, c.szb, (fb 68 (by decide)).trans c.kb, c.kbb, fun k k0 k1 => ?_, (fb 53 (by decide)).trans c.t53, (fb 54 (by decide)).trans c.t54⟩
  · obtain ⟨i1, i2, i3, i4, i5⟩ := c.im1 I e
    exact ⟨(fb 51 (by decide)).trans i1, fo 2 I i2 (by decide) i3.2.2.2.1.2, i3, i4, fun w t w0 w1 t0 t1 => (fr _ _ (by unfold rz; omega) (by unfold inA; omega) (by omega)).trans (i5 w t w0 w1 t0 t1)⟩
  · obtain ⟨p1, p2, p3⟩ := c.past i P e
    have hi : i < z.past.length := by
      rcases List.getElem?_eq_some_iff.mp e with ⟨q, -⟩; exact q
    exact ⟨fo _ P p1 (by omega) p2.2.2.2.1.2, p2, p3⟩
  · have := c.sk k k0 k1
    rw [fa 354 k (by decide), fa 352 k (by decide), fa 353 k (by decide)]
    exact this
theorem RR_day (c : RR n h z) (hp : z.past = []) (hd : z.S 0 0 < 100) (d : Nat) : ∃ h', C (d + 10) 204 [(2, 311), (0, 0)] h = some ((9, 0), h') ∧ RR n h' (zDay1 z) ∧ FrM h h' := by
  obtain ⟨h', a, ⟨f1, f2⟩, r', iv', g5, g6, g7⟩ := rk_204 c.k c.tx c.iv c.nb.2 hd (by decide) d
  rw [c.t53, c.t54] at r' iv' g5 g6 g7
  have e0 : (100 : Int) * 0 + z.S 0 0 = z.S 0 0 := by omega
  rw [e0] at f2 g5 g6 g7
  have w' := r'.w
  have d0 := c.iv.2.2.2.2.1
  have eD : sDay z.T z.S (-1) (-1) = sDay z.T z.S (-1) 0 ∧ dayPaid z.T z.S (-1) (-1) = dayPaid z.T z.S (-1) 0 ∧ dayPick z.T z.S (-1) (-1) = dayPick z.T z.S (-1) 0 ∧ dayLaps z.T z.S (-1) (-1) = dayLaps z.T z.S (-1) 0 := by
    have e1 : ∀ S, dayPay z.T S (-1) (-1) = dayPay z.T S (-1) 0 := fun S => rfl
    have e2 : ∀ S (m : Nat) (k b v : Int), cho z.T S (-1) (-1) m k b v = cho z.T S (-1) 0 m k b v := by
      intro S m
      induction m with
      | zero => intro k b v; rfl
      | succ m ih =>
        intro k b v
        unfold cho
        have : sCan z.T S k (-1) (-1) = sCan z.T S k (-1) 0 := rfl
        rw [this, ih, ih]
    have e3 : ∀ S, dayCh z.T S (-1) (-1) = dayCh z.T S (-1) 0 := fun S => by unfold dayCh sChoose; rw [e2]
    have e4 : ∀ S, daySt z.T S (-1) (-1) = daySt z.T S (-1) 0 := fun S => by unfold daySt; rw [e3]
    refine ⟨?_, by unfold dayPaid; rw [e1], by unfold dayPick; rw [e1, e3], by unfold dayLaps; rw [e1, e4]⟩
    unfold sDay
    rw [e1, e4]
  rw [eD.1] at r' iv'
  rw [eD.2.1] at g5
  rw [eD.2.2.1] at g6
  rw [eD.2.2.2] at g7
  have e00 := sDay_0 z.T z.S (-1) 0
  rw [show w32 (z.S 0 0 + 1) = z.S 0 0 + 1 by unfold w32; omega] at e00
  have fr : ∀ x j, rz x j → ¬ inA 0 x j → ¬ ((345 ≤ x ∧ x ≤ 347) ∧ j = z.S 0 0) → ld h' x j = ld h x j := fun x j e1 e2 e3 => f2 x j (by unfold rz at e1; omega) (by unfold rz at e1; omega) (by unfold rz at e1; omega) e2 e3
  refine ⟨h', a, ?_, f1, fun x j e => f2 x j (by omega) (by omega) (by omega) (by unfold inA; omega) (by omega)⟩
  have fa : ∀ x j, (x = 312 ∨ x = 313 ∨ (352 ≤ x ∧ x ≤ 354)) → ld h' x j = ld h x j := fun x j e => fr x j (by unfold rz; omega) (by unfold inA; omega) (by omega)
  have fb : ∀ j, (j = 2 ∨ j = 32 ∨ j = 33 ∨ j = 51 ∨ j = 52 ∨ j = 53 ∨ j = 54 ∨ j = 67 ∨ j = 68) → ld h' 311 j = ld h 311 j := fun j e => fr 311 j (by unfold rz; omega) (by unfold inA; omega) (by omega)
  refine ⟨r', c.tx, iv', c.nb, fun j j0 j1 => (fa 312 j (by decide)).trans (c.tp j j0 j1), (fb 2 (by decide)).trans c.tn, (fb 32 (by decide)).trans c.fk, (fb 33 (by decide)).trans c.fp, (fa 313 6 (by decide)).trans c.kk, fun e => (fb 51 (by decide)).trans (c.im0 e), fun I e => ?_, fun w t w0 w1 t0 t1 => ?_, (fb 52 (by decide)).trans c.pz, c.pl, fun i P e => ?_, (fb 67 (by decide)).trans c.sz, c.szb, (fb 68 (by decide)).trans c.kb, c.kbb, fun k k0 k1 => ?_, (fb 53 (by decide)).trans c.t53, (fb 54 (by decide)).trans c.t54⟩
  · obtain ⟨i1, i2, i3, i4, i5⟩ := c.im1 I e
    have r2 : RK h' 2 z.T I := by
      have t1 := i2.K.2.1
      have t2 := i2.K.2.2.1
      have k5 := rs5 i2
      have h5 := i3.2.2.2.1.2
      have e1 : ∀ x, (333 ≤ x ∧ x ≤ 337) ∨ x = 342 → ld h' x 2 = ld h x 2 := fun x e => fr x 2 (by unfold rz; omega) (by unfold inA; omega) (by omega)
      refine ⟨r'.1, i2.2.1, ?_, i2.2.2.2⟩
      rw [← i2.2.2.1]
      exact sR_cp (e1 333 (by decide)) (e1 334 (by decide)) (e1 335 (by decide)) (e1 336 (by decide)) (e1 337 (by decide)) (e1 342 (by decide)) (fun i i0 i1 => fr 338 _ (by unfold rz; omega) (by unfold inA; omega) (by omega)) (fun i i0 i1 => fr 339 _ (by unfold rz; omega) (by unfold inA; omega) (by omega)) (fun i i0 i1 => fr 340 _ (by unfold rz; omega) (by unfold inA; omega) (by omega)) (fun i i0 i1 => fr 341 _ (by unfold rz; omega) (by unfold inA; omega) (by omega)) (fun i i0 i1 => fr 343 _ (by unfold rz; omega) (by unfold inA; omega) (by omega)) (fun i i0 i1 => fr 344 _ (by unfold rz; omega) (by unfold inA; omega) (by omega))
    refine ⟨(fb 51 (by decide)).trans i1, r2, i3, ?_, fun w t w0 w1 t0 t1 => ?_⟩
    · show I 0 0 ≤ sDay z.T z.S (-1) 0 0 0
      rw [e00]; omega
    · rw [fr _ _ (by unfold rz; omega) (by unfold inA; omega) (by omega), i5 w t w0 w1 t0 t1]
      show z.dg w t = (if t = z.S 0 0 then _ else z.dg w t)
      rw [if_neg (by omega)]
  · have t1 : t < sDay z.T z.S (-1) 0 0 0 := t1
    rw [e00] at t1
    show ld h' (345 + w) t = (if t = z.S 0 0 then _ else z.dg w t)
    by_cases y : t = z.S 0 0
    · rw [if_pos y, y]
      have hw : w = 0 ∨ w = 1 ∨ w = 2 := by omega
      rcases hw with rfl | rfl | rfl
      · exact g5
      · exact g6
      · exact g7
    · rw [if_neg y]
      exact (fr _ _ (by unfold rz; omega) (by unfold inA; omega) (by omega)).trans (c.dg w t w0 w1 t0 (by omega))
  · exfalso
    have e : z.past[i]? = some P := e
    rw [hp] at e
    cases i <;> cases e
  · have := c.sk k k0 k1
    rw [fa 354 k (by decide), fa 352 k (by decide), fa 353 k (by decide)]
    exact this
theorem RR_clear (c : RR n h z) : RR n (st h 311 52 0) (z.setPast []) ∧ FrM h (st h 311 52 0) := by
  have fr : ∀ x j, ¬ (x = 311 ∧ j = 52) → ld (st h 311 52 0) x j = ld h x j := fun x j e => ld_st_ne (by omega)
  have w' : WF (st h 311 52 0) := wf_st c.k.w (n311 52 (by decide +kernel))
  refine ⟨⟨RK_eq c.k w' (fun x j u v => fr x j (by omega)), c.tx, c.iv, c.nb, fun j j0 j1 => (fr 312 j (by omega)).trans (c.tp j j0 j1), (fr 311 2 (by decide)).trans c.tn, (fr 311 32 (by decide)).trans c.fk, (fr 311 33 (by decide)).trans c.fp, (fr 313 6 (by decide)).trans c.kk, fun e => (fr 311 51 (by decide)).trans (c.im0 e), fun I e => ?_, fun w t w0 w1 t0 t1 => (fr _ _ (by omega)).trans (c.dg w t w0 w1 t0 t1), ld_st_eq _ _ _ _, Nat.zero_le _, (fun i P e => by cases i <;> cases e), (fr 311 67 (by decide)).trans c.sz, c.szb, (fr 311 68 (by decide)).trans c.kb, c.kbb, fun k k0 k1 => ?_, (fr 311 53 (by decide)).trans c.t53, (fr 311 54 (by decide)).trans c.t54⟩, FrM_st FrM_rf (by decide) _ _⟩
  · obtain ⟨i1, i2, i3, i4, i5⟩ := c.im1 I e
    exact ⟨(fr 311 51 (by decide)).trans i1, RK_eq i2 w' (fun x j u v => fr x j (by omega)), i3, i4, fun w t w0 w1 t0 t1 => (fr _ _ (by omega)).trans (i5 w t w0 w1 t0 t1)⟩
  · have := c.sk k k0 k1
    rw [fr 354 k (by omega), fr 352 k (by omega), fr 353 k (by omega)]
    exact this
theorem days_loop (d : Nat) : ∀ (m : Nat) (h : Hp) (z : Zt) (x k : Int), RR n h z → z.past = [] → z.S 0 0 + m ≤ 100 → 0 ≤ k → k + m = x → x ≤ 100 → ∃ h', V (d + 11) 209 45 [(2, 311), (0, x), (0, k)] [] h = some ((0, (zDayN m z).S 0 0), h') ∧ RR n h' (zDayN m z) ∧ FrM h h'
  | 0, h, z, x, k, c, hp, hd, k0, hk, hx => by
    have w := c.k.w
    refine ⟨h, ?_, c, FrM_rf⟩
    rw [e209_45, if_neg (by omega), e209_61, if_pos (F_a311 w), P_311_36 w, if_pos (F_a333 w), L_a333 w, if_pos (by decide), rs0 c.k]
    rfl
  | m + 1, h, z, x, k, c, hp, hd, k0, hk, hx => by
    have w := c.k.w
    have d0 := c.iv.2.2.2.2.1
    obtain ⟨h1, a1, c1, f1⟩ := RR_day c hp (by omega) d
    have e00 : (zDay1 z).S 0 0 = z.S 0 0 + 1 := (sDay_0 z.T z.S (-1) 0).trans (by unfold w32; omega)
    obtain ⟨h', a, c', f⟩ := days_loop d m h1 (zDay1 z) x (k + 1) c1 hp (by omega) (by omega) (by omega) hx
    refine ⟨h', ?_, c', FrM_tr f1 f⟩
    rw [e209_45, if_pos (by omega), if_pos (F_a311 w), Cl_eq _ a1, e209_55, show w32 (k + 1) = k + 1 by unfold w32; omega, a]
    rfl
theorem rk_209 (c : RR n h z) (x : Int) (d : Nat) : OPr n h z (d + 11) 209 [(2, 311), (0, x)] 0 (zDays x z).1 n (zDays x z).2 := by
  obtain ⟨c0, f0⟩ := RR_0 c 0
  have w := c.k.w
  have w0 := c0.k.w
  have d0 := c.iv.2.2.2.2.1
  unfold zDays
  by_cases q0 : x < 0
  · rw [if_pos (Or.inl q0)]; exact ⟨_, by rw [ce_209, e209_0, if_pos (W_a311 w), if_pos q0, e209_28], c0, f0⟩
  by_cases q1 : 100 < x
  · rw [if_pos (Or.inr (Or.inl q1))]; exact ⟨_, by rw [ce_209, e209_0, if_pos (W_a311 w), if_neg q0, e209_9, if_pos q1, e209_28], c0, f0⟩
  have e0 : C (d + 11) 209 [(2, 311), (0, x)] h = if 100 < z.S 0 0 + x then some ((0, -1), st h 311 0 0) else V (d + 11) 209 30 [(2, 311), (0, x), (9, 0)] [] (st h 311 0 0) := by
    rw [ce_209, e209_0, if_pos (W_a311 w), if_neg q0, e209_9, if_neg q1, if_pos (F_a311 w0), P_311_36 w0, if_pos (F_a333 w0), L_a333 w0, if_pos (by decide), rs0 c0.k, show w32 (z.S 0 0 + x) = z.S 0 0 + x by unfold w32; omega, e209_28]
  generalize st h 311 0 0 = h0 at *
  by_cases q2 : 100 < z.S 0 0 + x
  · rw [if_pos (Or.inr (Or.inr q2))]; exact ⟨h0, by rw [e0, if_pos q2], c0, f0⟩
  rw [if_neg (by omega)]
  rw [if_neg q2, e209_30, if_pos (F_a311 w0), Cl_eq _ (RR_plain c0 (d + 10))] at e0
  by_cases q3 : x = 0
  · rw [if_pos q3]
    refine ⟨h0, ?_, c0, f0⟩
    rw [e0, q3, if_neg (by decide), e209_43, e209_45, if_neg (by decide), e209_61, if_pos (F_a311 w0), P_311_36 w0, if_pos (F_a333 w0), L_a333 w0, if_pos (by decide), rs0 c0.k]
  · rw [if_neg q3]
    obtain ⟨c1, f1⟩ := RR_clear c0
    obtain ⟨h', a, c', f⟩ := days_loop (n := n) d x.toNat (st h0 311 52 0) (z.setPast []) x 0 c1 rfl (by show z.S 0 0 + _ ≤ 100; omega) (by decide) (by omega) (by omega)
    exact ⟨h', by rw [e0, if_pos (by omega), if_pos (W_a311 w0), e209_43, a], c', FrM_tr f0 (FrM_tr f1 f)⟩
theorem rk_227 (c : RR n h z) (p k : Int) (d : Nat) : OPr n h z (d + 1) 227 [(2, 311), (0, p), (0, k)] 0 (zOwner p k z) n z := by
  obtain ⟨c0, f0⟩ := RR_0 c 0
  have w := c.k.w
  have w0 := c0.k.w
  have i5 := c.iv.2.2.2.1
  have e0 : C (d + 1) 227 [(2, 311), (0, p), (0, k)] h = if bI (qPie z.T p) = 0 then some ((0, -1), st h 311 0 0) else if k < 0 then some ((0, -1), st h 311 0 0) else V (d + 1) 227 19 [(2, 311), (0, p), (0, k), (9, 0), (9, 0)] [] (st h 311 0 0) := by
    rw [ce_227, e227_0, if_pos (W_a311 w), if_pos (F_a311 w0), Cl_eq _ (rk_182 c0.k.1 p d), e227_17, e227_13, e227_17]
  generalize st h 311 0 0 = h0 at *
  refine ⟨h0, ?_, c0, f0⟩
  unfold zOwner
  cases hq : qPie z.T p with
  | false => rw [e0, hq, if_pos bI_f, if_pos (Or.inl rfl)]
  | true =>
    rw [hq, if_neg (by decide)] at e0
    by_cases q : k < 0
    · rw [e0, if_pos q, if_pos (Or.inr q)]
    rw [if_neg q] at e0
    rw [if_neg (by rintro (u | u); · cases u
                   · exact q u), e0, e227_19]
    have key : ∀ (m : Nat) (i x : Int), 0 ≤ i → i + m = z.S 5 0 → 0 ≤ x → x ≤ i → V (d + 1) 227 24 [(2, 311), (0, p), (0, k), (0, x), (0, i)] [] h0 = some ((0, owb z.S p k m i x), h0) := by
      intro m
      induction m with
      | zero =>
        intro i x i0 hi x0 xi
        rw [e227_24, if_pos (F_a311 w0), P_311_45 w0, if_pos (F_a342 w0), L_a342 w0, if_pos (by decide), rs5 c0.k, if_neg (by omega), e227_71]
        rfl
      | succ m ih =>
        intro i x i0 hi x0 xi
        have hi5 : 0 ≤ i ∧ i < z.S 5 0 := ⟨i0, by omega⟩
        have wk1 : w32 (i + 1) = i + 1 := by unfold w32; omega
        have e10 := rs10 c0.k hi5
        have e11 := rs11 c0.k hi5
        rw [show (40 : Int) * 0 + i = i by omega] at e10 e11
        unfold owb
        rw [e227_24, if_pos (F_a311 w0), P_311_45 w0, if_pos (F_a342 w0), L_a342 w0, if_pos (by decide), rs5 c0.k, if_pos hi5.2, e227_35, if_pos (F_a311 w0), P_311_46 w0, if_pos (F_a343 w0), L_a343 w0, if_pos (by omega), e10]
        by_cases y : z.S 10 i = p
        · rw [if_pos y, if_pos y, e227_49]
          by_cases y2 : x = k
          · rw [if_pos y2, if_pos y2, if_pos (F_a311 w0), P_311_47 w0, if_pos (F_a344 w0), L_a344 w0, if_pos (by omega), e11]
          · rw [if_neg y2, if_neg y2, e227_62, e227_65, wk1, show w32 (x + 1) = x + 1 by unfold w32; omega]
            exact ih (i + 1) (x + 1) (by omega) (by omega) (by omega) (by omega)
        · rw [if_neg y, if_neg y, e227_46, e227_65, wk1]
          exact ih (i + 1) x (by omega) (by omega) x0 (by omega)
    exact key (z.S 5 0).toNat 0 0 (by decide) (by omega) (by decide) (by decide)
/-- what was seen changes, all else stays -/
theorem RR_see (c : RR n h z) (w' : WF h') (fr : ∀ x j, rz x j → ¬ (352 ≤ x ∧ x ≤ 354) → ¬ (x = 311 ∧ (j = 67 ∨ j = 68)) → ld h' x j = ld h x j) {sk' sa' : Int → Int} {sz' kb' : Int} (g1 : ld h' 311 67 = sz') (g2 : 0 ≤ sz' ∧ sz' ≤ 24) (g3 : ld h' 311 68 = kb') (g4 : -1 ≤ kb' ∧ kb' ≤ sz') (g5 : ∀ k : Int, 0 ≤ k → k < sz' → (sk' k = 2 ∧ ld h' 354 k = sa' k ∧ 0 ≤ sa' k ∧ sa' k < k) ∨ ((sk' k = 0 ∨ sk' k = 1) ∧ ld h' 354 k = -1 ∧ ld h' 352 k = sa' k ∧ (0 ≤ sa' k ∧ sa' k < z.T 0 0) ∧ ld h' 353 k = sk' k)) : RR n h' ((z.setSee sk' sa' sz').setKb kb') := by
  have fa : ∀ x j, (312 ≤ x ∧ x ≤ 347) → ld h' x j = ld h x j := fun x j e => fr x j (by unfold rz; omega) (by omega) (by omega)
  have fb : ∀ j, (j = 2 ∨ j = 32 ∨ j = 33 ∨ j = 51 ∨ j = 52 ∨ j = 53 ∨ j = 54) → ld h' 311 j = ld h 311 j := fun j e => fr 311 j (by unfold rz; omega) (by omega) (by omega)
  refine ⟨RK_eq c.k w' (fun x j u v => fa x j (by omega)), c.tx, c.iv, c.nb, fun j j0 j1 => (fa 312 j (by decide)).trans (c.tp j j0 j1), (fb 2 (by decide)).trans c.tn, (fb 32 (by decide)).trans c.fk, (fb 33 (by decide)).trans c.fp, (fa 313 6 (by decide)).trans c.kk, fun e => (fb 51 (by decide)).trans (c.im0 e), fun I e => ?_, fun w t w0 w1 t0 t1 => (fa _ _ (by omega)).trans (c.dg w t w0 w1 t0 t1), (fb 52 (by decide)).trans c.pz, c.pl, fun i P e => ?_, g1, g2, g3, g4, g5, (fb 53 (by decide)).trans c.t53, (fb 54 (by decide)).trans c.t54⟩
  · obtain ⟨i1, i2, i3, i4, i5⟩ := c.im1 I e
    exact ⟨(fb 51 (by decide)).trans i1, RK_eq i2 w' (fun x j u v => fa x j (by omega)), i3, i4, fun w t w0 w1 t0 t1 => (fa _ _ (by omega)).trans (i5 w t w0 w1 t0 t1)⟩
  · obtain ⟨p1, p2, p3⟩ := c.past i P e
    exact ⟨RK_eq p1 w' (fun x j u v => fa x j (by omega)), p2, p3⟩
theorem rk_231 (c : RR n h z) (x : Int) (d : Nat) : OPr n h z d 231 [(2, 311), (0, x)] 0 (zKnown x z).1 n (zKnown x z).2 := by
  obtain ⟨c0, f0⟩ := RR_0 c 0
  have w := c.k.w
  have w0 := c0.k.w
  unfold zKnown
  by_cases q0 : x < -1
  · rw [if_pos (Or.inl q0)]; exact ⟨_, by rw [ce_231, e231_0, if_pos (W_a311 w), if_pos q0, e231_18, if_pos (by decide)], c0, f0⟩
  by_cases q1 : z.sz < x
  · rw [if_pos (Or.inr q1)]; exact ⟨_, by rw [ce_231, e231_0, if_pos (W_a311 w), if_neg q0, e231_10, if_pos (F_a311 w0), c0.sz, if_pos q1, e231_18, if_pos (by decide)], c0, f0⟩
  · rw [if_neg (by omega)]
    refine ⟨_, by rw [ce_231, e231_0, if_pos (W_a311 w), if_neg q0, e231_10, if_pos (F_a311 w0), c0.sz, if_neg q1, e231_20, if_pos (W_a311 w0), if_pos (by decide)], ?_, FrM_st f0 (by decide) _ _⟩
    refine RR_see (sk' := z.sk) (sa' := z.sa) (sz' := z.sz) c0 (wf_st w0 (n311 68 (by decide +kernel))) (fun x j e1 e2 e3 => ld_st_ne (by omega)) ((ld_st_ne (Or.inr (by decide))).trans c0.sz) c0.szb (ld_st_eq _ _ _ _) (by omega) (fun k k0 k1 => ?_)
    have := c0.sk k k0 k1
    rw [ld_st_ne (Or.inl (by decide)), ld_st_ne (Or.inl (by decide)), ld_st_ne (Or.inl (by decide))]
    exact this
theorem rk_229 (c : RR n h z) (f i : Int) (hi : i = 0 ∨ i = 1) (d : Nat) : OPr n h z (d + 1) 229 [(2, 311), (0, f), (0, i)] 0 (zSee f i z).1 n (zSee f i z).2 := by
  obtain ⟨c0, f0⟩ := RR_0 c 0
  have w := c.k.w
  have w0 := c0.k.w
  have szb := c.szb
  have kbb := c.kbb
  have e0 : C (d + 1) 229 [(2, 311), (0, f), (0, i)] h = if bI (qFea z.T f) = 0 then some ((0, -1), st h 311 0 0) else if z.sz = 24 then some ((0, -1), st h 311 0 0) else V (d + 1) 229 24 [(2, 311), (0, f), (0, i)] [] (st h 311 0 0) := by
    rw [ce_229, e229_0, if_pos (W_a311 w), if_pos (F_a311 w0), Cl_eq _ (rk_181 c0.k.1 f d), e229_22, e229_13, if_pos (F_a311 w0), c0.sz, e229_22]
  generalize st h 311 0 0 = h0 at *
  unfold zSee zAdd
  cases hq : qFea z.T f with
  | false => rw [if_pos rfl]; exact ⟨h0, by rw [e0, hq, if_pos bI_f], c0, f0⟩
  | true =>
    rw [hq, if_neg (by decide)] at e0
    rw [if_neg (by decide)]
    have hf := qFea_iff.mp hq
    by_cases q : z.sz = 24
    · rw [if_neg (by omega)]; exact ⟨h0, by rw [e0, if_pos q], c0, f0⟩
    · rw [if_neg q] at e0
      rw [if_pos (by omega)]
      have ei : (if i = 0 then (0 : Int) else 1) = i := by rcases hi with rfl | rfl <;> rfl
      rw [ei]
      have sz0 := c0.sz
      have w1 : WF (st h0 352 z.sz f) := wf_st w0 (nA 352 (by decide +kernel) _)
      have w2 : WF (st (st h0 352 z.sz f) 353 z.sz i) := wf_st w1 (nA 353 (by decide +kernel) _)
      have w3 : WF (st (st (st h0 352 z.sz f) 353 z.sz i) 354 z.sz (-1)) := wf_st w2 (nA 354 (by decide +kernel) _)
      have w4 : WF (st (st (st (st h0 352 z.sz f) 353 z.sz i) 354 z.sz (-1)) 311 67 (z.sz + 1)) := wf_st w3 (n311 67 (by decide +kernel))
      have s1 : ld (st h0 352 z.sz f) 311 67 = z.sz := (ld_st_ne (Or.inl (by decide))).trans sz0
      have s2 : ld (st (st h0 352 z.sz f) 353 z.sz i) 311 67 = z.sz := (ld_st_ne (Or.inl (by decide))).trans s1
      have s3 : ld (st (st (st h0 352 z.sz f) 353 z.sz i) 354 z.sz (-1)) 311 67 = z.sz := (ld_st_ne (Or.inl (by decide))).trans s2
      refine ⟨st (st (st (st h0 352 z.sz f) 353 z.sz i) 354 z.sz (-1)) 311 67 (z.sz + 1), ?_, ?_, FrM_st (FrM_st (FrM_st (FrM_st f0 (by decide) _ _) (by decide) _ _) (by decide) _ _) (by decide) _ _⟩
      · rw [e0, e229_24, if_pos (F_a311 w0), if_pos (F_a311 w0), P_311_69 w0, if_pos (W_a352 w0), sz0, L_a352 w0, if_pos (by omega), e229_34, if_pos (F_a311 w1), if_pos (F_a311 w1), P_311_70 w1, if_pos (W_a353 w1), s1, L_a353 w1, if_pos (by omega), if_pos hi, e229_44, if_pos (F_a311 w2), if_pos (F_a311 w2), P_311_71 w2, if_pos (W_a354 w2), s2, L_a354 w2, if_pos (by omega), e229_54, if_pos (F_a311 w3), if_pos (W_a311 w3), s3, show w32 (z.sz + 1) = z.sz + 1 by unfold w32; omega, e229_64, if_pos (F_a311 w4), ld_st_eq, show w32 (z.sz + 1 - 1) = z.sz by unfold w32; omega]
      · refine RR_see (kb' := z.kb) (sk' := fun k => if k = z.sz then i else z.sk k) (sa' := fun k => if k = z.sz then f else z.sa k) (sz' := z.sz + 1) c0 w4 (fun x j e1 e2 e3 => by rw [ld_st_ne (by omega), ld_st_ne (by omega), ld_st_ne (by omega), ld_st_ne (by omega)]) (ld_st_eq _ _ _ _) (by omega) ?_ (by omega) (fun k k0 k1 => ?_)
        · rw [ld_st_ne (Or.inr (by decide)), ld_st_ne (Or.inl (by decide)), ld_st_ne (Or.inl (by decide)), ld_st_ne (Or.inl (by decide))]; exact c0.kb
        · have u1 : ld (st (st (st (st h0 352 z.sz f) 353 z.sz i) 354 z.sz (-1)) 311 67 (z.sz + 1)) 352 k = if k = z.sz then f else ld h0 352 k := by rw [ld_st_ne (Or.inl (by decide)), ld_st_ne (Or.inl (by decide)), ld_st_ne (Or.inl (by decide)), ld_up]
          have u2 : ld (st (st (st (st h0 352 z.sz f) 353 z.sz i) 354 z.sz (-1)) 311 67 (z.sz + 1)) 353 k = if k = z.sz then i else ld h0 353 k := by rw [ld_st_ne (Or.inl (by decide)), ld_st_ne (Or.inl (by decide)), ld_up, ld_st_ne (Or.inl (by decide))]
          have u3 : ld (st (st (st (st h0 352 z.sz f) 353 z.sz i) 354 z.sz (-1)) 311 67 (z.sz + 1)) 354 k = if k = z.sz then -1 else ld h0 354 k := by rw [ld_st_ne (Or.inl (by decide)), ld_up, ld_st_ne (Or.inl (by decide)), ld_st_ne (Or.inl (by decide))]
          rw [u3, u1, u2]
          show ((if k = z.sz then i else z.sk k) = 2 ∧ (if k = z.sz then (-1 : Int) else ld h0 354 k) = (if k = z.sz then f else z.sa k) ∧ 0 ≤ (if k = z.sz then f else z.sa k) ∧ (if k = z.sz then f else z.sa k) < k) ∨ (((if k = z.sz then i else z.sk k) = 0 ∨ (if k = z.sz then i else z.sk k) = 1) ∧ (if k = z.sz then (-1 : Int) else ld h0 354 k) = -1 ∧ (if k = z.sz then f else ld h0 352 k) = (if k = z.sz then f else z.sa k) ∧ (0 ≤ (if k = z.sz then f else z.sa k) ∧ (if k = z.sz then f else z.sa k) < z.T 0 0) ∧ (if k = z.sz then i else ld h0 353 k) = (if k = z.sz then i else z.sk k))
          by_cases y : k = z.sz
          · simp only [if_pos y]
            exact Or.inr ⟨hi, trivial, trivial, hf, trivial⟩
          · simp only [if_neg y]
            exact c0.sk k k0 (by have k1 : k < z.sz + 1 := k1; omega)
theorem rk_230 (c : RR n h z) (x : Int) (d : Nat) : OPr n h z d 230 [(2, 311), (0, x)] 0 (zStrike x z).1 n (zStrike x z).2 := by
  obtain ⟨c0, f0⟩ := RR_0 c 0
  have w := c.k.w
  have w0 := c0.k.w
  have szb := c.szb
  have kbb := c.kbb
  unfold zStrike zAdd
  by_cases q0 : x < 0
  · rw [if_pos (Or.inl q0)]; exact ⟨_, by rw [ce_230, e230_0, if_pos (W_a311 w), if_pos q0, e230_26], c0, f0⟩
  have e0 : C d 230 [(2, 311), (0, x)] h = if x < z.sz then (if z.sz = 24 then some ((0, -1), st h 311 0 0) else V d 230 28 [(2, 311), (0, x)] [] (st h 311 0 0)) else some ((0, -1), st h 311 0 0) := by
    rw [ce_230, e230_0, if_pos (W_a311 w), if_neg q0, e230_9, if_pos (F_a311 w0), c0.sz, if_pos (F_a311 w0), e230_26]
  generalize st h 311 0 0 = h0 at *
  by_cases q1 : x < z.sz
  · rw [if_neg (by omega)]
    rw [if_pos q1] at e0
    by_cases q : z.sz = 24
    · rw [if_neg (by omega)]; exact ⟨h0, by rw [e0, if_pos q], c0, f0⟩
    · rw [if_neg q] at e0
      rw [if_pos (by omega)]
      have sz0 := c0.sz
      have w1 : WF (st h0 354 z.sz x) := wf_st w0 (nA 354 (by decide +kernel) _)
      have w2 : WF (st (st h0 354 z.sz x) 311 67 (z.sz + 1)) := wf_st w1 (n311 67 (by decide +kernel))
      have s1 : ld (st h0 354 z.sz x) 311 67 = z.sz := (ld_st_ne (Or.inl (by decide))).trans sz0
      refine ⟨st (st h0 354 z.sz x) 311 67 (z.sz + 1), ?_, ?_, FrM_st (FrM_st f0 (by decide) _ _) (by decide) _ _⟩
      · rw [e0, e230_28, if_pos (F_a311 w0), if_pos (F_a311 w0), P_311_71 w0, if_pos (W_a354 w0), sz0, L_a354 w0, if_pos (by omega), e230_38, if_pos (F_a311 w1), if_pos (W_a311 w1), s1, show w32 (z.sz + 1) = z.sz + 1 by unfold w32; omega, e230_48, if_pos (F_a311 w2), ld_st_eq, show w32 (z.sz + 1 - 1) = z.sz by unfold w32; omega]
      · refine RR_see (kb' := z.kb) (sk' := fun k => if k = z.sz then 2 else z.sk k) (sa' := fun k => if k = z.sz then x else z.sa k) (sz' := z.sz + 1) c0 w2 (fun x j e1 e2 e3 => by rw [ld_st_ne (by omega), ld_st_ne (by omega)]) (ld_st_eq _ _ _ _) (by omega) ?_ (by omega) (fun k k0 k1 => ?_)
        · rw [ld_st_ne (Or.inr (by decide)), ld_st_ne (Or.inl (by decide))]; exact c0.kb
        · have u3 : ld (st (st h0 354 z.sz x) 311 67 (z.sz + 1)) 354 k = if k = z.sz then x else ld h0 354 k := (ld_st_ne (Or.inl (by decide))).trans (ld_up _ _ _ _ _)
          have u1 : ld (st (st h0 354 z.sz x) 311 67 (z.sz + 1)) 352 k = ld h0 352 k := (ld_st_ne (Or.inl (by decide))).trans (ld_st_ne (Or.inl (by decide)))
          have u2 : ld (st (st h0 354 z.sz x) 311 67 (z.sz + 1)) 353 k = ld h0 353 k := (ld_st_ne (Or.inl (by decide))).trans (ld_st_ne (Or.inl (by decide)))
          rw [u3, u1, u2]
          show ((if k = z.sz then (2 : Int) else z.sk k) = 2 ∧ (if k = z.sz then x else ld h0 354 k) = (if k = z.sz then x else z.sa k) ∧ 0 ≤ (if k = z.sz then x else z.sa k) ∧ (if k = z.sz then x else z.sa k) < k) ∨ (((if k = z.sz then (2 : Int) else z.sk k) = 0 ∨ (if k = z.sz then (2 : Int) else z.sk k) = 1) ∧ (if k = z.sz then x else ld h0 354 k) = -1 ∧ ld h0 352 k = (if k = z.sz then x else z.sa k) ∧ (0 ≤ (if k = z.sz then x else z.sa k) ∧ (if k = z.sz then x else z.sa k) < z.T 0 0) ∧ ld h0 353 k = (if k = z.sz then (2 : Int) else z.sk k))
          by_cases y : k = z.sz
          · simp only [if_pos y]
            exact Or.inl ⟨trivial, trivial, by omega, by omega⟩
          · simp only [if_neg y]
            exact c0.sk k k0 (by have k1 : k < z.sz + 1 := k1; omega)
  · rw [if_pos (Or.inr q1)]
    rw [if_neg q1] at e0
    exact ⟨h0, e0, c0, f0⟩
end DA
