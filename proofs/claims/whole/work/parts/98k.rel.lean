/-! layer 2: what the plain program stands for -/
def RR (n : Int) (h : Hp) (z : Zt) : Prop :=
  (RK h 0 z.T z.S) ∧
  (TX z.T) ∧
  (IV n z.T z.S) ∧
  (0 ≤ n ∧ n ≤ 600) ∧
  (∀ j : Int, 0 ≤ j → j < 700 → ld h 312 j = z.tp j) ∧
  (ld h 311 2 = z.tn) ∧
  (ld h 311 32 = z.fk) ∧
  (ld h 311 33 = z.fp) ∧
  (ld h 313 6 = z.T 19 0 + z.T 20 0 + z.T 21 0) ∧
  (z.im = none → ld h 311 51 = 0) ∧
  (∀ I, z.im = some I → ld h 311 51 = 1 ∧ RK h 2 z.T I ∧ IV n z.T I ∧ I 0 0 ≤ z.S 0 0 ∧ ∀ w t : Int, 0 ≤ w → w < 3 → 0 ≤ t → t < I 0 0 → ld h (345 + w) (200 + t) = z.dg w t) ∧
  (∀ w t : Int, 0 ≤ w → w < 3 → 0 ≤ t → t < z.S 0 0 → ld h (345 + w) t = z.dg w t) ∧
  (ld h 311 52 = (z.past.length : Int)) ∧
  (z.past.length ≤ 20) ∧
  (∀ (i : Nat) (P : Wd), z.past[i]? = some P → RK h (3 + ((z.past.length : Int) - 1 - (i : Int))) z.T P ∧ IV n z.T P ∧ P 0 0 = z.S 0 0) ∧
  (ld h 311 67 = z.sz) ∧
  (0 ≤ z.sz ∧ z.sz ≤ 24) ∧
  (ld h 311 68 = z.kb) ∧
  (-1 ≤ z.kb ∧ z.kb ≤ z.sz) ∧
  (∀ k : Int, 0 ≤ k → k < z.sz → (z.sk k = 2 ∧ ld h 354 k = z.sa k ∧ 0 ≤ z.sa k ∧ z.sa k < k) ∨ ((z.sk k = 0 ∨ z.sk k = 1) ∧ ld h 354 k = -1 ∧ ld h 352 k = z.sa k ∧ (0 ≤ z.sa k ∧ z.sa k < z.T 0 0) ∧ ld h 353 k = z.sk k)) ∧
  (ld h 311 53 = -1) ∧
  (ld h 311 54 = -1)
section RRs
variable {h h' : Hp} {z : Zt} {n : Int}
theorem RR.k (c : RR n h z) : RK h 0 z.T z.S := c.1
theorem RR.tx (c : RR n h z) : TX z.T := c.2.1
theorem RR.iv (c : RR n h z) : IV n z.T z.S := c.2.2.1
theorem RR.nb (c : RR n h z) : 0 ≤ n ∧ n ≤ 600 := c.2.2.2.1
theorem RR.tp (c : RR n h z) : ∀ j : Int, 0 ≤ j → j < 700 → ld h 312 j = z.tp j := c.2.2.2.2.1
theorem RR.tn (c : RR n h z) : ld h 311 2 = z.tn := c.2.2.2.2.2.1
theorem RR.fk (c : RR n h z) : ld h 311 32 = z.fk := c.2.2.2.2.2.2.1
theorem RR.fp (c : RR n h z) : ld h 311 33 = z.fp := c.2.2.2.2.2.2.2.1
theorem RR.kk (c : RR n h z) : ld h 313 6 = z.T 19 0 + z.T 20 0 + z.T 21 0 := c.2.2.2.2.2.2.2.2.1
theorem RR.im0 (c : RR n h z) : z.im = none → ld h 311 51 = 0 := c.2.2.2.2.2.2.2.2.2.1
theorem RR.im1 (c : RR n h z) : ∀ I, z.im = some I → ld h 311 51 = 1 ∧ RK h 2 z.T I ∧ IV n z.T I ∧ I 0 0 ≤ z.S 0 0 ∧ ∀ w t : Int, 0 ≤ w → w < 3 → 0 ≤ t → t < I 0 0 → ld h (345 + w) (200 + t) = z.dg w t := c.2.2.2.2.2.2.2.2.2.2.1
theorem RR.dg (c : RR n h z) : ∀ w t : Int, 0 ≤ w → w < 3 → 0 ≤ t → t < z.S 0 0 → ld h (345 + w) t = z.dg w t := c.2.2.2.2.2.2.2.2.2.2.2.1
theorem RR.pz (c : RR n h z) : ld h 311 52 = (z.past.length : Int) := c.2.2.2.2.2.2.2.2.2.2.2.2.1
theorem RR.pl (c : RR n h z) : z.past.length ≤ 20 := c.2.2.2.2.2.2.2.2.2.2.2.2.2.1
theorem RR.past (c : RR n h z) : ∀ (i : Nat) (P : Wd), z.past[i]? = some P → RK h (3 + ((z.past.length : Int) - 1 - (i : Int))) z.T P ∧ IV n z.T P ∧ P 0 0 = z.S 0 0 := c.2.2.2.2.2.2.2.2.2.2.2.2.2.2.1
theorem RR.sz (c : RR n h z) : ld h 311 67 = z.sz := c.2.2.2.2.2.2.2.2.2.2.2.2.2.2.2.1
theorem RR.szb (c : RR n h z) : 0 ≤ z.sz ∧ z.sz ≤ 24 := c.2.2.2.2.2.2.2.2.2.2.2.2.2.2.2.2.1
theorem RR.kb (c : RR n h z) : ld h 311 68 = z.kb := c.2.2.2.2.2.2.2.2.2.2.2.2.2.2.2.2.2.1
theorem RR.kbb (c : RR n h z) : -1 ≤ z.kb ∧ z.kb ≤ z.sz := c.2.2.2.2.2.2.2.2.2.2.2.2.2.2.2.2.2.2.1
theorem RR.sk (c : RR n h z) : ∀ k : Int, 0 ≤ k → k < z.sz → (z.sk k = 2 ∧ ld h 354 k = z.sa k ∧ 0 ≤ z.sa k ∧ z.sa k < k) ∨ ((z.sk k = 0 ∨ z.sk k = 1) ∧ ld h 354 k = -1 ∧ ld h 352 k = z.sa k ∧ (0 ≤ z.sa k ∧ z.sa k < z.T 0 0) ∧ ld h 353 k = z.sk k) := c.2.2.2.2.2.2.2.2.2.2.2.2.2.2.2.2.2.2.2.1
theorem RR.t53 (c : RR n h z) : ld h 311 53 = -1 := c.2.2.2.2.2.2.2.2.2.2.2.2.2.2.2.2.2.2.2.2.1
theorem RR.t54 (c : RR n h z) : ld h 311 54 = -1 := c.2.2.2.2.2.2.2.2.2.2.2.2.2.2.2.2.2.2.2.2.2
theorem IV_mono {n n' : Int} {T S : Wd} (iv : IV n T S) (e : n ≤ n') : IV n' T S := by
  obtain ⟨i1, i2, i3, i⟩ := iv
  exact ⟨i1, i2, by omega, i⟩
theorem RR_mono {n' : Int} (c : RR n h z) (e : n ≤ n') (e2 : n' ≤ 600) : RR n' h z :=
  ⟨c.k, c.tx, IV_mono c.iv e, by have := c.nb; omega, c.tp, c.tn, c.fk, c.fp, c.kk, c.im0, fun I e1 => by
    obtain ⟨i1, i2, i3, i4⟩ := c.im1 I e1
    exact ⟨i1, i2, IV_mono i3 e, i4⟩, c.dg, c.pz, c.pl, fun i P e1 => by
    obtain ⟨p1, p2, p3⟩ := c.past i P e1
    exact ⟨p1, IV_mono p2 e, p3⟩, c.sz, c.szb, c.kb, c.kbb, c.sk, c.t53, c.t54⟩
def rz (x j : Int) : Prop := (312 ≤ x ∧ x ≤ 347) ∨ (352 ≤ x ∧ x ≤ 354) ∨ (x = 311 ∧ (j = 2 ∨ j = 32 ∨ j = 33 ∨ j = 51 ∨ j = 52 ∨ j = 53 ∨ j = 54 ∨ j = 67 ∨ j = 68))
def FrM (h h' : Hp) : Prop := h'.2 = h.2 ∧ ∀ a j : Int, (a < 311 ∨ 355 < a) → ld h' a j = ld h a j
theorem FrM_rf : FrM h h := ⟨rfl, fun _ _ _ => rfl⟩
theorem FrM_tr {h1 h2 : Hp} (f : FrM h h1) (g : FrM h1 h2) : FrM h h2 := ⟨g.1.trans f.1, fun a j e => (g.2 a j e).trans (f.2 a j e)⟩
theorem FrM_A {a : Int} (f : FrA a h h') : FrM h h' := ⟨f.2.1, fun x j e => f.2.2 x j (by omega) (by omega) (by omega) (by unfold inA; omega)⟩
theorem FrM_W (f : FrW h h') : FrM h h' := ⟨f.2.1, fun x j e => f.2.2 x j (by omega) (by omega) (by omega)⟩
theorem FrM_st {h1 : Hp} (f : FrM h h1) {x : Int} (hx : 311 ≤ x ∧ x ≤ 355) (j v : Int) : FrM h (st h1 x j v) := ⟨f.1, fun a i e => (ld_st_ne (by omega)).trans (f.2 a i e)⟩
/-- studio 0 changes, all else stays -/
theorem RR_gen {n' : Int} (c : RR n h z) {S' : Wd} (w' : WF h') (fr : ∀ x j, rz x j → ¬ inA 0 x j → ld h' x j = ld h x j) (k' : RK h' 0 z.T S') (iv' : IV n' z.T S') (hd : S' 0 0 = z.S 0 0) (hn : n ≤ n' ∧ n' ≤ 600) : RR n' h' (z.setS S') := by
  have fa : ∀ x j, ((345 ≤ x ∧ x ≤ 347) ∨ x = 312 ∨ x = 313 ∨ (352 ≤ x ∧ x ≤ 354)) → ld h' x j = ld h x j := fun x j e => fr x j (by unfold rz; omega) (by unfold inA; omega)
  have fb : ∀ j, (j = 2 ∨ j = 32 ∨ j = 33 ∨ j = 51 ∨ j = 52 ∨ j = 53 ∨ j = 54 ∨ j = 67 ∨ j = 68) → ld h' 311 j = ld h 311 j := fun j e => fr 311 j (by unfold rz; omega) (by unfold inA; omega)
  have fo : ∀ a P, RK h a z.T P → 0 < a → P 5 0 ≤ 40 → RK h' a z.T P := fun a P r ha h5 => by
    have t1 := r.K.2.1
    have t2 := r.K.2.2.1
    have ra := r.2.1
    have k5 := rs5 r
    have e1 : ∀ x, (333 ≤ x ∧ x ≤ 337) ∨ x = 342 → ld h' x a = ld h x a := fun x e => fr x a (by unfold rz; omega) (by unfold inA; omega)
    refine ⟨k'.1, ra, ?_, r.2.2.2⟩
    rw [← r.2.2.1]
    exact sR_cp (e1 333 (by decide)) (e1 334 (by decide)) (e1 335 (by decide)) (e1 336 (by decide)) (e1 337 (by decide)) (e1 342 (by decide)) (fun i i0 i1 => fr 338 _ (by unfold rz; omega) (by unfold inA; omega)) (fun i i0 i1 => fr 339 _ (by unfold rz; omega) (by unfold inA; omega)) (fun i i0 i1 => fr 340 _ (by unfold rz; omega) (by unfold inA; omega)) (fun i i0 i1 => fr 341 _ (by unfold rz; omega) (by unfold inA; omega)) (fun i i0 i1 => fr 343 _ (by unfold rz; omega) (by unfold inA; omega)) (fun i i0 i1 => fr 344 _ (by unfold rz; omega) (by unfold inA; omega))
  refine ⟨k', c.tx, iv', by have := c.nb; omega, fun j j0 j1 => (fa 312 j (by decide)).trans (c.tp j j0 j1), (fb 2 (by decide)).trans c.tn, (fb 32 (by decide)).trans c.fk, (fb 33 (by decide)).trans c.fp, (fa 313 6 (by decide)).trans c.kk, fun e => (fb 51 (by decide)).trans (c.im0 e), fun I e => ?_, fun w t w0 w1 t0 t1 => ?_, (fb 52 (by decide)).trans c.pz, c.pl, fun i P e => ?_, (fb 67 (by decide)).trans c.sz, c.szb, (fb 68 (by decide)).trans c.kb, c.kbb, fun k k0 k1 => ?_, (fb 53 (by decide)).trans c.t53, (fb 54 (by decide)).trans c.t54⟩
  · obtain ⟨i1, i2, i3, i4, i5⟩ := c.im1 I e
    refine ⟨(fb 51 (by decide)).trans i1, fo 2 I i2 (by decide) i3.2.2.2.1.2, IV_mono i3 hn.1, ?_, fun w t w0 w1 t0 t1 => (fa _ _ (by omega)).trans (i5 w t w0 w1 t0 t1)⟩
    show I 0 0 ≤ S' 0 0
    rw [hd]; exact i4
  · have t1 : t < S' 0 0 := t1
    rw [hd] at t1
    exact (fa _ _ (by omega)).trans (c.dg w t w0 w1 t0 t1)
  · obtain ⟨p1, p2, p3⟩ := c.past i P e
    have hi : i < z.past.length := by
      rcases List.getElem?_eq_some_iff.mp e with ⟨q, -⟩; exact q
    exact ⟨fo _ P p1 (by show 0 < 3 + ((z.past.length : Int) - 1 - (i : Int)); omega) p2.2.2.2.1.2, IV_mono p2 hn.1, p3.trans hd.symm⟩
  · have := c.sk k k0 k1
    rw [fa 354 k (by decide), fa 352 k (by decide), fa 353 k (by decide)]
    exact this
theorem RR_keep (c : RR n h z) (w' : WF h') (fr : ∀ x j, rz x j → ld h' x j = ld h x j) : RR n h' z := by
  have r' : RK h' 0 z.T z.S := by
    have hk := c.k
    refine ⟨RT_eq hk.1 w' (fun x j u v => fr x j (by unfold rz; omega)), hk.2.1, ?_, hk.2.2.2⟩
    exact (sR_eq (fun x j u v => fr x j (by unfold rz; omega))).trans hk.2.2.1
  exact RR_gen (S' := z.S) c w' (fun x j e _ => fr x j e) r' c.iv rfl ⟨Int.le_refl _, c.nb.2⟩
theorem RR_W (c : RR n h z) (f : FrW h h') : RR n h' z := RR_keep c f.1 (fun x j e => f.2.2 x j (by unfold rz at e; omega) (by unfold rz at e; omega) (by unfold rz at e; omega))
theorem n311 (j : Int) (e : nptJ 311 j = true) : npt 311 j := npt_J e
theorem RR_0 (c : RR n h z) (v : Int) : RR n (st h 311 0 v) z ∧ FrM h (st h 311 0 v) := ⟨RR_keep c (wf_st c.k.w (n311 0 (by decide +kernel))) (fun x j e => ld_st_ne (by unfold rz at e; omega)), FrM_st FrM_rf (by decide) _ _⟩
theorem RR_plain (c : RR n h z) (d : Nat) : C d 188 [(2, 311)] h = some ((9, 0), h) := by
  have w := c.k.w
  have e1 : st (st h 311 53 (-1)) 311 54 (-1) = h := by
    have : (st (st h 311 53 (-1)) 311 54 (-1)).1 = h.1 := by
      funext a j
      show (if a = 311 ∧ j = 54 then (-1 : Int) else if a = 311 ∧ j = 53 then -1 else h.1 a j) = h.1 a j
      by_cases q : a = 311 ∧ j = 54
      · rw [if_pos q, q.1, q.2]; exact c.t54.symm
      · rw [if_neg q]
        by_cases q2 : a = 311 ∧ j = 53
        · rw [if_pos q2, q2.1, q2.2]; exact c.t53.symm
        · rw [if_neg q2]
    exact Prod.ext this rfl
  have w1 : WF (st h 311 53 (-1)) := wf_st w (n311 53 (by decide +kernel))
  rw [ce_188, e188_0, if_pos (W_a311 w), if_pos (W_a311 w1), e188_10, e1]
def OPr (n : Int) (h : Hp) (z : Zt) (D m : Nat) (as : List (Nat × Int)) (t : Nat) (r : Int) (n' : Int) (z' : Zt) : Prop := ∃ h', C D m as h = some ((t, r), h') ∧ RR n' h' z' ∧ FrM h h'
theorem rk_136 (c : RR n h z) (d : Nat) : C d 136 [(2, 311)] h = some ((0, ld h 311 0), h) := by
  rw [ce_136, e136_0, if_pos (F_a311 c.k.w)]
theorem rk_175 (c : RR n h z) (x : Int) (d : Nat) : OPr n h z d 175 [(2, 311), (0, x)] 0 (zFault x z) n z := by
  obtain ⟨c0, f0⟩ := RR_0 c 0
  have w := c.k.w
  have w0 := c0.k.w
  refine ⟨_, ?_, c0, f0⟩
  unfold zFault
  rw [ce_175, e175_0, if_pos (W_a311 w)]
  by_cases q0 : x = 0
  · rw [if_pos q0, if_pos q0, e175_9, if_pos (F_a311 w0), c0.fk, e175_29]
  · by_cases q1 : x = 1
    · rw [if_neg q0, if_neg q0, if_pos q1, e175_16, if_pos q1, if_pos (F_a311 w0), c0.fp, e175_29]
    · rw [if_neg q0, if_neg q0, if_neg q1, e175_16, if_neg q1, e175_28, e175_29]
theorem rk_150 {x f m y : Int} (hf : okF h x 0 = true) (hl : len h x = 10) (hb : 0 ≤ f ∧ f ≤ 5) (hm : 0 ≤ m ∧ m ≤ 5) (d : Nat) : C d 150 [(2, x), (0, f), (0, m), (0, y)] h = some ((0, fnd (fun k => decide (ld h x (f + k) = y)) m.toNat 0), h) := by
  have key : ∀ (n : Nat) (k : Int), 0 ≤ k → k + n = m → V d 150 3 [(2, x), (0, f), (0, m), (0, y), (0, k)] [] h = some ((0, fnd (fun k => decide (ld h x (f + k) = y)) n k), h) := by
    intro n
    induction n with
    | zero =>
      intro k k0 hk
      rw [e150_3, if_neg (by omega), e150_28]
      rfl
    | succ n ih =>
      intro k k0 hk
      unfold fnd
      rw [e150_3, if_pos (by omega), if_pos hf, show w32 (f + k) = f + k by unfold w32; omega, hl, if_pos (by omega)]
      by_cases z : ld h x (f + k) = y
      · rw [if_pos z, e150_19, if_pos (decide_eq_true z)]
      · rw [if_neg z, if_neg (by simp [z]), e150_22, show w32 (k + 1) = k + 1 by unfold w32; omega]
        exact ih (k + 1) (by omega) (by omega)
  rw [ce_150, e150_0]
  exact key m.toNat 0 (by decide) (by omega)
theorem rk_176 (c : RR n h z) (x l : Int) (d : Nat) : OPr n h z (d + 1) 176 [(2, 311), (0, x), (0, l)] 0 (zNamed x l z) n z := by
  obtain ⟨c0, f0⟩ := RR_0 c 0
  have w := c.k.w
  have w0 := c0.k.w
  have hT := c0.k.K
  refine ⟨_, ?_, c0, f0⟩
  unfold zNamed tFeat tSitr
  rw [ce_176, e176_0, if_pos (W_a311 w)]
  by_cases q0 : x = 0
  · rw [if_pos q0, if_pos q0, e176_9, if_pos (F_a311 w0), if_pos (F_a311 w0), P_311_3 w0, if_pos (F_a313 w0), L_a313 w0, if_pos (by decide), P_311_4 w0, rt0 c0.k.1, Cl_eq _ (rk_150 (F_a314 w0) (L_a314 w0) (by decide) hT.1 d), e176_51, fnd_cong (g := fun k => decide (z.T 4 k = l)) (z.T 0 0).toNat 0 (fun i i0 i1 => by rw [Int.zero_add, rt4 c0.k.1 ⟨i0, by have := hT.1; omega⟩])]
  · by_cases q1 : x = 1
    · rw [if_neg q0, if_neg q0, if_pos q1, e176_27, if_pos q1, if_pos (F_a311 w0), if_pos (F_a311 w0), P_311_3 w0, if_pos (F_a313 w0), L_a313 w0, if_pos (by decide), P_311_7 w0, rt1 c0.k.1, Cl_eq _ (rk_150 (F_a317 w0) (L_a317 w0) (by decide) hT.2.1 d), e176_51, fnd_cong (g := fun k => decide (z.T 7 k = l)) (z.T 1 0).toNat 0 (fun i i0 i1 => by rw [Int.zero_add, rt7 c0.k.1 ⟨i0, by have := hT.2.1; omega⟩])]
    · rw [if_neg q0, if_neg q0, if_neg q1, e176_27, if_neg q1, e176_50, e176_51]
theorem rk_210 (c : RR n h z) (t x : Int) (d : Nat) : OPr n h z d 210 [(2, 311), (0, t), (0, x)] 0 (zLog t x z) n z := by
  obtain ⟨c0, f0⟩ := RR_0 c 0
  have w := c.k.w
  have w0 := c0.k.w
  have hd := c.iv.2.2.2.2.1
  refine ⟨_, ?_, c0, f0⟩
  unfold zLog
  rw [ce_210, e210_0, if_pos (W_a311 w)]
  by_cases q0 : t < 0
  · rw [if_pos q0, if_pos (Or.inl q0), e210_19]
  rw [if_neg q0, e210_9, if_pos (F_a311 w0), P_311_36 w0, if_pos (F_a333 w0), L_a333 w0, if_pos (by decide), rs0 c0.k]
  by_cases q1 : t < z.S 0 0
  · rw [if_pos q1, e210_21]
    by_cases x0 : x = 0
    · rw [if_neg (show ¬ (t < 0 ∨ ¬ t < z.S 0 0 ∨ x < 0 ∨ 2 < x) by omega), if_pos x0, if_pos (F_a311 w0), P_311_48 w0, if_pos (F_a345 w0), L_a345 w0, if_pos (by omega), e210_63, x0, ← c0.dg 0 t (by decide) (by decide) (by omega) q1]; rfl
    rw [if_neg x0, e210_34]
    by_cases x1 : x = 1
    · rw [if_neg (show ¬ (t < 0 ∨ ¬ t < z.S 0 0 ∨ x < 0 ∨ 2 < x) by omega), if_pos x1, if_pos (F_a311 w0), P_311_49 w0, if_pos (F_a346 w0), L_a346 w0, if_pos (by omega), e210_63, x1, ← c0.dg 1 t (by decide) (by decide) (by omega) q1]; rfl
    rw [if_neg x1, e210_48]
    by_cases x2 : x = 2
    · rw [if_neg (show ¬ (t < 0 ∨ ¬ t < z.S 0 0 ∨ x < 0 ∨ 2 < x) by omega), if_pos x2, if_pos (F_a311 w0), P_311_50 w0, if_pos (F_a347 w0), L_a347 w0, if_pos (by omega), e210_63, x2, ← c0.dg 2 t (by decide) (by decide) (by omega) q1]; rfl
    rw [if_neg x2, e210_62, e210_63, if_pos (by omega)]
  · rw [if_neg q1, e210_19, if_pos (by omega)]
theorem rk_232 (c : RR n h z) (d : Nat) : C d 232 [(2, 311)] h = some ((0, zKn z), h) := by
  have w := c.k.w
  unfold zKn
  rw [ce_232, e232_0, if_pos (F_a311 w), c.kb]
  by_cases q : z.kb = -1
  · rw [if_pos q, if_pos q, if_pos (F_a311 w), c.sz, e232_19]
  · rw [if_neg q, if_neg q, e232_15, if_pos (F_a311 w), c.kb, e232_19]
theorem rk_236 {a : Int} {T S : Wd} (r : RK h a T S) (iv : IV n T S) (d : Nat) : C (d + 1) 236 [(2, 311), (0, a)] h = some ((0, sDones T S), h) := by
  have w := r.w
  have t2 := r.K.2.2.1
  rw [ce_236, e236_0]
  unfold sDones
  refine lpC2 (N := T 2 0) (G := fun k c => V (d + 1) 236 4 [(2, 311), (0, a), (0, c), (0, k)] [] h) t2.1 (fun c => ?_) (fun k c k0 k1 c0 ck => ?_)
  · show V (d + 1) 236 4 _ _ _ = _
    rw [e236_4, if_pos (F_a311 w), P_311_3 w, if_pos (F_a313 w), L_a313 w, if_pos (by decide), rt2 r.1, if_neg (by omega), e236_37]
  · show V (d + 1) 236 4 _ _ _ = V (d + 1) 236 4 _ _ _
    have wk1 : w32 (k + 1) = k + 1 := by unfold w32; omega
    rw [e236_4, if_pos (F_a311 w), P_311_3 w, if_pos (F_a313 w), L_a313 w, if_pos (by decide), rt2 r.1, if_pos k1, e236_14, if_pos (F_a311 w), Cl_eq _ (rk_185 r ⟨k0, k1⟩ d), qFull_D iv ⟨k0, k1⟩]
    cases qDone T S k with
    | true => rw [if_neg (by decide), e236_29, wk1, if_pos rfl, show w32 (c + 1) = c + 1 by unfold w32; omega]
    | false => rw [if_pos bI_f, e236_28, e236_29, wk1, if_neg (by decide), show w32 (c + 0) = c by unfold w32; omega]
theorem rk_234 (c : RR n h z) (d : Nat) : OPr n h z d 234 [(2, 311)] 0 (z.S 4 0) n z := by
  obtain ⟨c0, f0⟩ := RR_0 c 0
  have w := c.k.w
  have w0 := c0.k.w
  refine ⟨_, ?_, c0, f0⟩
  rw [ce_234, e234_0, if_pos (W_a311 w), if_pos (F_a311 w0), P_311_40 w0, if_pos (F_a337 w0), L_a337 w0, if_pos (by decide), if_pos (F_a311 w0), P_311_39 w0, if_pos (F_a336 w0), L_a336 w0, if_pos (by decide), rs4 c0.k]
end RRs
