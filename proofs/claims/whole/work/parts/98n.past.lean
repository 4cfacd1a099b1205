/-! layer 2: the plain program: the past, images, counts -/
section PA2
variable {h h' : Hp} {z : Zt} {n : Int}
def inB (x j : Int) : Prop := (((333 ≤ x ∧ x ≤ 337) ∨ x = 342) ∧ 3 ≤ j ∧ j < 23) ∨ (x = 338 ∧ 15 ≤ j ∧ j < 115) ∨ ((339 ≤ x ∧ x ≤ 341) ∧ 30 ≤ j ∧ j < 230) ∨ ((343 ≤ x ∧ x ≤ 344) ∧ 120 ≤ j ∧ j < 920)
theorem inA_B {a x j : Int} (ha : 3 ≤ a ∧ a < 23) (e : inA a x j) : inB x j := by unfold inA at e; unfold inB; omega
theorem RK_fr {a : Int} {T S : Wd} (r : RK h a T S) (rt : RT h' T) (h5 : S 5 0 ≤ 40) (fr : ∀ x j, 333 ≤ x → x ≤ 344 → inA a x j → ld h' x j = ld h x j) : RK h' a T S := by
  have t1 := r.K.2.1
  have t2 := r.K.2.2.1
  have ra := r.2.1
  have k5 := rs5 r
  have e1 : ∀ x, (333 ≤ x ∧ x ≤ 337) ∨ x = 342 → ld h' x a = ld h x a := fun x e => fr x a (by omega) (by omega) (by unfold inA; omega)
  refine ⟨rt, ra, ?_, r.2.2.2⟩
  rw [← r.2.2.1]
  exact sR_cp (e1 333 (by decide)) (e1 334 (by decide)) (e1 335 (by decide)) (e1 336 (by decide)) (e1 337 (by decide)) (e1 342 (by decide)) (fun i i0 i1 => fr 338 _ (by omega) (by omega) (by unfold inA; omega)) (fun i i0 i1 => fr 339 _ (by omega) (by omega) (by unfold inA; omega)) (fun i i0 i1 => fr 340 _ (by omega) (by omega) (by unfold inA; omega)) (fun i i0 i1 => fr 341 _ (by omega) (by omega) (by unfold inA; omega)) (fun i i0 i1 => fr 343 _ (by omega) (by omega) (by unfold inA; omega)) (fun i i0 i1 => fr 344 _ (by omega) (by omega) (by unfold inA; omega))
theorem RR_past (c : RR n h z) (w' : WF h') (fr : ∀ x j, rz x j → ¬ inB x j → ¬ (x = 311 ∧ j = 52) → ld h' x j = ld h x j) {l : List Wd} (g1 : ld h' 311 52 = (l.length : Int)) (g2 : l.length ≤ 20) (g3 : ∀ (i : Nat) (P : Wd), l[i]? = some P → RK h' (3 + ((l.length : Int) - 1 - (i : Int))) z.T P ∧ IV n z.T P ∧ P 0 0 = z.S 0 0) : RR n h' (z.setPast l) := by
  have fa : ∀ x j, (312 ≤ x ∧ x ≤ 332) ∨ (345 ≤ x ∧ x ≤ 347) ∨ (352 ≤ x ∧ x ≤ 354) → ld h' x j = ld h x j := fun x j e => fr x j (by unfold rz; omega) (by unfold inB; omega) (by omega)
  have fb : ∀ j, (j = 2 ∨ j = 32 ∨ j = 33 ∨ j = 51 ∨ j = 53 ∨ j = 54 ∨ j = 67 ∨ j = 68) → ld h' 311 j = ld h 311 j := fun j e => fr 311 j (by unfold rz; omega) (by unfold inB; omega) (by omega)
  have rt : RT h' z.T := RT_eq c.k.1 w' (fun x j u v => fa x j (by omega))
  have fo : ∀ a P, RK h a z.T P → a < 3 → P 5 0 ≤ 40 → RK h' a z.T P := fun a P r ha h5 => RK_fr r rt h5 (fun x j u v e => fr x j (by unfold rz; omega) (by have := r.2.1; unfold inA at e; unfold inB; omega) (by omega))
  refine ⟨fo 0 z.S c.k (by decide) c.iv.2.2.2.1.2, c.tx, c.iv, c.nb, fun j j0 j1 => (fa 312 j (by decide)).trans (c.tp j j0 j1), (fb 2 (by decide)).trans c.tn, (fb 32 (by decide)).trans c.fk, (fb 33 (by decide)).trans c.fp, (fa 313 6 (by decide)).trans c.kk, fun e => (fb 51 (by decide)).trans (c.im0 e), fun I e => ?_, fun w t w0 w1 t0 t1 => (fa _ _ (by omega)).trans (c.dg w t w0 w1 t0 t1), g1, g2, g3, (fb 67 (by decide)).trans c.sz, c.szb, (fb 68 (by decide)).trans c.kb, c.kbb, fun k k0 k1 => ?_, (fb 53 (by decide)).trans c.t53, (fb 54 (by decide)).trans c.t54⟩
  · obtain ⟨i1, i2, i3, i4, i5⟩ := c.im1 I e
    exact ⟨(fb 51 (by decide)).trans i1, fo 2 I i2 (by decide) i3.2.2.2.1.2, i3, i4, fun w t w0 w1 t0 t1 => (fa _ _ (by omega)).trans (i5 w t w0 w1 t0 t1)⟩
  · have := c.sk k k0 k1
    rw [fa 354 k (by decide), fa 352 k (by decide), fa 353 k (by decide)]
    exact this
def EX (x j : Int) : Prop := (x = 311 ∧ j ≠ 52 ∧ j ≠ 57) ∨ (350 ≤ x ∧ x ≤ 355)
theorem rk_218 (c : RR n h z) (d : Nat) : ∃ h', C (d + 1) 218 [(2, 311)] h = some ((9, 0), h') ∧ RR n h' z.push ∧ FrM h h' ∧ ∀ x j, EX x j → ld h' x j = ld h x j := by
  have w := c.k.w
  have hl := c.pl
  -- the last step: now is copied behind the m that are kept
  have last : ∀ (h1 : Hp) (l : List Wd), RR n h1 (z.setPast l) → l.length < 20 → ∃ h', V (d + 1) 218 45 [(2, 311), (9, 0)] [] h1 = some ((9, 0), h') ∧ RR n h' (z.setPast (z.S :: l)) ∧ FrM h1 h' ∧ ∀ x j, EX x j → ld h' x j = ld h1 x j := by
    intro h1 l c1 hl
    have w1 := c1.k.w
    obtain ⟨h2, a2, f2, r2⟩ := rk_178 (t := 3 + (l.length : Int)) c1.k c1.iv.2.2.2.1.2 (by omega) (by omega) d
    have w2 := r2.w
    have e52 : ld h1 311 52 = (l.length : Int) := c1.pz
    have g52 : ld h2 311 52 = (l.length : Int) := (f2.2.2 311 52 (by decide) (by decide) (by decide) (by unfold inA; omega)).trans e52
    have w3 : WF (st h2 311 52 ((l.length : Int) + 1)) := wf_st w2 (n311 52 (by decide +kernel))
    refine ⟨st h2 311 52 ((l.length : Int) + 1), ?_, ?_, FrM_st (FrM_A f2) (by decide) _ _, fun x j e => (ld_st_ne (by unfold EX at e; omega)).trans (f2.2.2 x j (by unfold EX at e; omega) (by unfold EX at e; omega) (by unfold EX at e; omega) (by unfold EX at e; unfold inA; omega))⟩
    · rw [e218_45, if_pos (F_a311 w1), if_pos (F_a311 w1), e52, show w32 (3 + (l.length : Int)) = 3 + (l.length : Int) by unfold w32; omega, Cl_eq _ a2, e218_56, if_pos (F_a311 w2), if_pos (W_a311 w2), g52, show w32 ((l.length : Int) + 1) = (l.length : Int) + 1 by unfold w32; omega, e218_66]
    · have fr3 : ∀ x j, ¬ (x = 311 ∧ j = 52) → ld (st h2 311 52 ((l.length : Int) + 1)) x j = ld h2 x j := fun x j e => ld_st_ne (by omega)
      refine RR_past (l := z.S :: l) c1 w3 (fun x j e1 e2 e3 => (fr3 x j e3).trans (f2.2.2 x j (by unfold rz at e1; omega) (by unfold rz at e1; omega) (by unfold rz at e1; omega) (fun y => e2 (inA_B (by omega) y)))) (by rw [ld_st_eq, List.length_cons]; omega) (by rw [List.length_cons]; omega) (fun i P e => ?_)
      rw [List.length_cons]
      cases i with
      | zero =>
        have e : some z.S = some P := e
        rw [← Option.some.inj e, show 3 + (((l.length + 1 : Nat) : Int) - 1 - ((0 : Nat) : Int)) = 3 + (l.length : Int) by omega]
        exact ⟨RK_eq r2 w3 (fun x j u v => fr3 x j (by omega)), c1.iv, rfl⟩
      | succ i =>
        have e : l[i]? = some P := e
        have hi : i < l.length := by
          rcases List.getElem?_eq_some_iff.mp e with ⟨q, -⟩; exact q
        obtain ⟨p1, p2, p3⟩ := c1.past i P e
        rw [show 3 + (((l.length + 1 : Nat) : Int) - 1 - ((i + 1 : Nat) : Int)) = 3 + ((l.length : Int) - 1 - (i : Int)) by omega]
        have p1 : RK h1 (3 + ((l.length : Int) - 1 - (i : Int))) z.T P := p1
        exact ⟨RK_eq (RK_o p1 f2 (by omega) p2.2.2.2.1.2) w3 (fun x j u v => fr3 x j (by omega)), p2, p3⟩
  have e0 : C (d + 1) 218 [(2, 311)] h = if (z.past.length : Int) = 20 then V (d + 1) 218 11 [(2, 311), (0, 1)] [] h else V (d + 1) 218 45 [(2, 311), (9, 0)] [] h := by
    rw [ce_218, e218_0, if_pos (F_a311 w), c.pz]
  by_cases q : (z.past.length : Int) = 20
  · rw [if_pos q] at e0
    -- all are moved down by one
    have key : ∀ (m : Nat) (k : Int) (h1 : Hp), 1 ≤ k → k + m = 20 → WF h1 → FrM h h1 → (∀ x j, (rz x j ∧ ¬ inB x j) ∨ EX x j → ld h1 x j = ld h x j) → (∀ (i : Nat) (P : Wd), z.past[i]? = some P → ((i : Int) < 20 - k + 0 → RK h1 (3 + (19 - (i : Int))) z.T P) ∧ (20 - k ≤ (i : Int) → (i : Int) < 19 → RK h1 (3 + (18 - (i : Int))) z.T P) ∧ ((i : Int) = 20 - k → RK h1 (3 + (19 - (i : Int))) z.T P ∨ k = 1)) → ∃ h', V (d + 1) 218 11 [(2, 311), (0, k)] [] h1 = V (d + 1) 218 35 [(2, 311), (9, 0)] [] h' ∧ WF h' ∧ FrM h h' ∧ (∀ x j, (rz x j ∧ ¬ inB x j) ∨ EX x j → ld h' x j = ld h x j) ∧ (∀ (i : Nat) (P : Wd), z.past[i]? = some P → (i : Int) < 19 → RK h' (3 + (18 - (i : Int))) z.T P) := by
      intro m
      induction m with
      | zero =>
        intro k h1 k0 hk w1 fm f p
        refine ⟨h1, ?_, w1, fm, f, fun i P e hi => (p i P e).2.1 (by omega) hi⟩
        rw [e218_11, if_neg (by omega)]
      | succ m ih =>
        intro k h1 k0 hk w1 fm f p
        have hk20 : k < 20 := by omega
        -- the one that moves
        have hex : ∃ P, z.past[(19 - k).toNat]? = some P := ⟨_, List.getElem?_eq_getElem (by omega)⟩
        obtain ⟨P, hP⟩ := hex
        have hPi : (((19 - k).toNat : Nat) : Int) = 19 - k := by omega
        have pr := p _ P hP
        obtain ⟨q1, q2, q3⟩ := c.past _ P hP
        have rP : RK h1 (3 + k) z.T P := by
          have := pr.1 (by omega)
          rw [hPi] at this
          rw [show 3 + (19 - (19 - k)) = 3 + k by omega] at this
          exact this
        obtain ⟨h2, a2, f2, r2⟩ := rk_178 (t := 3 + k - 1) rP q2.2.2.2.1.2 (by omega) (by omega) d
        have w2 := r2.w
        obtain ⟨h', aa, rest⟩ := ih (k + 1) h2 (by omega) (by omega) w2 (FrM_tr fm (FrM_A f2)) (fun x j e => (f2.2.2 x j (by unfold rz EX at e; omega) (by unfold rz EX at e; omega) (by unfold rz EX at e; omega) (fun y => e.elim (fun e => e.2 (inA_B (by omega) y)) (fun e => by unfold EX at e; unfold inA at y; omega))).trans (f x j e)) (fun i Q eQ => by
          obtain ⟨u1, u2, u3⟩ := p i Q eQ
          obtain ⟨v1, v2, v3⟩ := c.past i Q eQ
          have h5 := v2.2.2.2.1.2
          refine ⟨fun y => RK_o (u1 (by omega)) f2 (by omega) h5, fun y1 y2 => ?_, fun y => Or.inl (RK_o (u1 (by omega)) f2 (by omega) h5)⟩
          by_cases z1 : (i : Int) = 19 - k
          · have : i = (19 - k).toNat := by omega
            rw [this, hP] at eQ
            rw [← Option.some.inj eQ, z1, show 3 + (18 - (19 - k)) = 3 + k - 1 by omega]
            exact r2
          · exact RK_o (u2 (by omega) y2) f2 (by omega) h5)
        refine ⟨h', ?_, rest⟩
        rw [e218_11, if_pos hk20, if_pos (F_a311 w1), show w32 (3 + k) = 3 + k by unfold w32; omega, show w32 (3 + k - 1) = 3 + k - 1 by unfold w32; omega, Cl_eq _ a2, e218_29, show w32 (k + 1) = k + 1 by unfold w32; omega, aa]
    obtain ⟨h1, a1, w1, fm1, f1, p1⟩ := key 19 1 h (by decide) (by decide) w FrM_rf (fun _ _ _ => rfl) (fun i P e => by
      have hi : i < z.past.length := by
        rcases List.getElem?_eq_some_iff.mp e with ⟨q, -⟩; exact q
      have := (c.past i P e).1
      rw [q, show 3 + ((20 : Int) - 1 - (i : Int)) = 3 + (19 - (i : Int)) by omega] at this
      exact ⟨fun _ => this, fun y1 y2 => by omega, fun _ => Or.inr rfl⟩)
    have w2 : WF (st h1 311 52 19) := wf_st w1 (n311 52 (by decide +kernel))
    have fr2 : ∀ x j, ¬ (x = 311 ∧ j = 52) → ld (st h1 311 52 19) x j = ld h1 x j := fun x j e => ld_st_ne (by omega)
    have c2 : RR n (st h1 311 52 19) (z.setPast (z.past.take 19)) := by
      have hlen : (z.past.take 19).length = 19 := by rw [List.length_take]; omega
      refine RR_past c w2 (fun x j e1 e2 e3 => (fr2 x j e3).trans (f1 x j (Or.inl ⟨e1, e2⟩))) (by rw [ld_st_eq, hlen]; rfl) (by omega) (fun i P e => ?_)
      have hi : i < 19 := by
        rcases List.getElem?_eq_some_iff.mp e with ⟨q, -⟩; omega
      rw [List.getElem?_take_of_lt hi] at e
      obtain ⟨q1, q2, q3⟩ := c.past i P e
      rw [hlen, show 3 + (((19 : Nat) : Int) - 1 - (i : Int)) = 3 + (18 - (i : Int)) by omega]
      exact ⟨RK_eq (p1 i P e (by omega)) w2 (fun x j u v => fr2 x j (by omega)), q2, q3⟩
    obtain ⟨h', a, c', f', x'⟩ := last (st h1 311 52 19) (z.past.take 19) c2 (by rw [List.length_take]; omega)
    have e52 : ld h1 311 52 = 20 := (f1 311 52 (Or.inl ⟨by unfold rz; omega, by unfold inB; omega⟩)).trans (c.pz.trans q)
    refine ⟨h', ?_, ?_, FrM_tr (FrM_st fm1 (by decide) _ _) f', fun x j e => (x' x j e).trans ((fr2 x j (by unfold EX at e; omega)).trans (f1 x j (Or.inr e)))⟩
    · rw [e0, a1, e218_35, if_pos (F_a311 w1), if_pos (W_a311 w1), e52, show w32 (20 - 1) = 19 from rfl, a]
    · have : (z.S :: z.past).take 20 = z.S :: z.past.take 19 := rfl
      unfold Zt.push
      rw [this]
      exact c'
  · rw [if_neg q] at e0
    obtain ⟨h', a, c', f', x'⟩ := last h z.past c (by omega)
    refine ⟨h', by rw [e0, a], ?_, f', x'⟩
    have : (z.S :: z.past).take 20 = z.S :: z.past := List.take_of_length_le (by rw [List.length_cons]; omega)
    unfold Zt.push
    rw [this]
    exact c'
theorem rk_237 (c : RR n h z) (d : Nat) : OPr n h z (d + 2) 237 [(2, 311)] 0 (zUndo z).1 n (zUndo z).2 := by
  obtain ⟨c0, f0⟩ := RR_0 c 0
  have w := c.k.w
  have w0 := c0.k.w
  unfold zUndo
  have e0 : C (d + 2) 237 [(2, 311)] h = if (z.past.length : Int) = 0 then some ((0, -1), st h 311 0 0) else V (d + 2) 237 14 [(2, 311)] [] (st h 311 0 0) := by
    rw [ce_237, e237_0, if_pos (W_a311 w), if_pos (F_a311 w0), c0.pz, e237_12]
  generalize st h 311 0 0 = h0 at *
  cases hp : z.past with
  | nil => exact ⟨h0, by rw [e0, hp, if_pos (show (([] : List Wd).length : Int) = 0 from rfl)], c0, f0⟩
  | cons P l =>
    have hl := c.pl
    rw [hp, List.length_cons] at hl
    have hlen : (z.past.length : Int) = (l.length : Int) + 1 := by rw [hp, List.length_cons]; omega
    rw [hlen, if_neg (by omega)] at e0
    have e52 : ld h0 311 52 = (l.length : Int) + 1 := c0.pz.trans hlen
    obtain ⟨p1, p2, p3⟩ := c0.past 0 P (by rw [hp]; rfl)
    rw [hlen, show 3 + ((l.length : Int) + 1 - 1 - ((0 : Nat) : Int)) = 3 + (l.length : Int) by omega] at p1
    have w1 : WF (st h0 311 52 (l.length : Int)) := wf_st w0 (n311 52 (by decide +kernel))
    have fr1 : ∀ x j, ¬ (x = 311 ∧ j = 52) → ld (st h0 311 52 (l.length : Int)) x j = ld h0 x j := fun x j e => ld_st_ne (by omega)
    have r1 : RK (st h0 311 52 (l.length : Int)) (3 + (l.length : Int)) z.T P := RK_eq p1 w1 (fun x j u v => fr1 x j (by omega))
    have c1 : RR n (st h0 311 52 (l.length : Int)) (z.setPast l) := RR_past c0 w1 (fun x j e1 e2 e3 => fr1 x j e3) (ld_st_eq _ _ _ _) (by omega) (fun i Q e => by
      obtain ⟨q1, q2, q3⟩ := c0.past (i + 1) Q (by rw [hp]; exact e)
      rw [hlen, show 3 + ((l.length : Int) + 1 - 1 - ((i + 1 : Nat) : Int)) = 3 + ((l.length : Int) - 1 - (i : Int)) by omega] at q1
      exact ⟨RK_eq q1 w1 (fun x j u v => fr1 x j (by omega)), q2, q3⟩)
    have g1 : ld (st h0 311 52 (l.length : Int)) 311 52 = (l.length : Int) := ld_st_eq _ _ _ _
    have fm1 := FrM_st f0 (x := 311) (by decide) 52 (l.length : Int)
    have e14 : V (d + 2) 237 14 [(2, 311)] [] h0 = V (d + 2) 237 24 [(2, 311)] [] (st h0 311 52 (l.length : Int)) := by
      rw [e237_14, if_pos (F_a311 w0), if_pos (W_a311 w0), e52, show w32 ((l.length : Int) + 1 - 1) = (l.length : Int) by unfold w32; omega]
    generalize st h0 311 52 (l.length : Int) = h1 at *
    obtain ⟨h2, a2, f2, r2⟩ := rk_178 (t := 0) r1 p2.2.2.2.1.2 (by decide) (by omega) (d + 1)
    have w2 := r2.w
    have g2 : ld h2 311 52 = (l.length : Int) := (f2.2.2 311 52 (by decide) (by decide) (by decide) (by unfold inA; omega)).trans g1
    refine ⟨h2, ?_, RR_gen c1 w2 (fun x j e1 e2 => f2.2.2 x j (by unfold rz at e1; omega) (by unfold rz at e1; omega) (by unfold rz at e1; omega) e2) r2 p2 p3 ⟨Int.le_refl _, c.nb.2⟩, FrM_tr fm1 (FrM_A f2)⟩
    rw [e0, e14, e237_24, if_pos (F_a311 w1), if_pos (F_a311 w1), g1, show w32 (3 + (l.length : Int)) = 3 + (l.length : Int) by unfold w32; omega, Cl_eq _ a2, e237_35, if_pos (F_a311 w2), g2]
end PA2
