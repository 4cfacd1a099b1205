/-! layer 2: the plain program is fed -/
theorem and32_255 (x : Int) : and32 x 255 = x % 256 := by
  have e : and32 x 255 = (BitVec.ofInt 32 x &&& BitVec.ofInt 32 255).toInt := rfl
  have hn : (BitVec.ofInt 32 x &&& BitVec.ofInt 32 255).toNat = (x % 256).toNat := by
    rw [BitVec.toNat_and, BitVec.toNat_ofInt, show (BitVec.ofInt 32 255).toNat = 2 ^ 8 - 1 by decide, Nat.and_two_pow_sub_one_eq_mod]
    omega
  rw [e, BitVec.toInt_eq_toNat_of_lt (by rw [hn]; omega), hn]
  omega
theorem sh_255 (v : Int) {s : Int} (hs : s = 0 ∨ s = 8 ∨ s = 16 ∨ s = 24) : and32 (shr32 v s) 255 = by4 v s := by
  unfold by4
  rw [and32_255, and32_255]
  unfold shr32 ushr32 w32
  rcases hs with e | e | e | e
  · rw [e, show ((2 : Int) ^ ((0 : Int) % 32).toNat) = 1 by decide]; omega
  · rw [e, show ((2 : Int) ^ ((8 : Int) % 32).toNat) = 256 by decide]; omega
  · rw [e, show ((2 : Int) ^ ((16 : Int) % 32).toNat) = 65536 by decide]; omega
  · rw [e, show ((2 : Int) ^ ((24 : Int) % 32).toNat) = 16777216 by decide]; omega
section FE
variable {h h' : Hp} {z : Zt} {n : Int}
theorem RR_tape (c : RR n h z) (w' : WF h') (fr : ∀ x j, rz x j → ¬ x = 312 → ¬ (x = 311 ∧ j = 2) → ld h' x j = ld h x j) {tp : Int → Int} {tn : Int} (e1 : ∀ j : Int, 0 ≤ j → j < 700 → ld h' 312 j = tp j) (e2 : ld h' 311 2 = tn) : RR n h' (z.setTape tp tn) := by
  have fo : ∀ a P, RK h a z.T P → RK h' a z.T P := fun a P hk => by
    refine ⟨RT_eq hk.1 w' (fun x j u v => fr x j (by unfold rz; omega) (by omega) (by omega)), hk.2.1, ?_, hk.2.2.2⟩
    exact (sR_eq (fun x j u v => fr x j (by unfold rz; omega) (by omega) (by omega))).trans hk.2.2.1
  have fa : ∀ x j, ((345 ≤ x ∧ x ≤ 347) ∨ x = 313 ∨ (352 ≤ x ∧ x ≤ 354)) → ld h' x j = ld h x j := fun x j e => fr x j (by unfold rz; omega) (by omega) (by omega)
  have fb : ∀ j, (j = 32 ∨ j = 33 ∨ j = 51 ∨ j = 52 ∨ j = 53 ∨ j = 54 ∨ j = 67 ∨ j = 68) → ld h' 311 j = ld h 311 j := fun j e => fr 311 j (by unfold rz; omega) (by omega) (by omega)
  refine ⟨fo 0 _ c.k, c.tx, c.iv, c.nb, e1, e2, (fb 32 (by decide)).trans c.fk, (fb 33 (by decide)).trans c.fp, (fa 313 6 (by decide)).trans c.kk, fun e => (fb 51 (by decide)).trans (c.im0 e), fun I e => ?_, fun w t w0 w1 t0 t1 => (fa _ _ (by omega)).trans (c.dg w t w0 w1 t0 t1), (fb 52 (by decide)).trans c.pz, c.pl, fun i P e => ?_, (fb 67 (by decide)).trans c.sz, c.szb, (fb 68 (by decide)).trans c.kb, c.kbb, fun k k0 k1 => ?_, (fb 53 (by decide)).trans c.t53, (fb 54 (by decide)).trans c.t54⟩
  · obtain ⟨i1, i2, i3, i4, i5⟩ := c.im1 I e
    exact ⟨(fb 51 (by decide)).trans i1, fo 2 I i2, i3, i4, fun w t w0 w1 t0 t1 => (fa _ _ (by omega)).trans (i5 w t w0 w1 t0 t1)⟩
  · obtain ⟨p1, p2, p3⟩ := c.past i P e
    exact ⟨fo _ P p1, p2, p3⟩
  · have := c.sk k k0 k1
    rw [fa 354 k (by decide), fa 352 k (by decide), fa 353 k (by decide)]
    exact this
theorem n312 (j : Int) : npt 312 j := npt_A (by decide +kernel) j
theorem n311_2 : npt 311 2 := npt_J (by decide +kernel)
def fv (a b x y e k : Int) : Int := if k < 4 then a else if k < 8 then b else if k < 12 then x else if k < 16 then y else e
def fbv (a b x y e k : Int) : Int := and32 (shr32 (fv a b x y e k) (w32 (24 - w32 (8 * Int.tmod k 4)))) 255
theorem fb0 (a b x y e : Int) : fbv a b x y e 0 = by4 a 24 := sh_255 a (by decide)
theorem fb1 (a b x y e : Int) : fbv a b x y e 1 = by4 a 16 := sh_255 a (by decide)
theorem fb2 (a b x y e : Int) : fbv a b x y e 2 = by4 a 8 := sh_255 a (by decide)
theorem fb3 (a b x y e : Int) : fbv a b x y e 3 = by4 a 0 := sh_255 a (by decide)
theorem fb4 (a b x y e : Int) : fbv a b x y e 4 = by4 b 24 := sh_255 b (by decide)
theorem fb5 (a b x y e : Int) : fbv a b x y e 5 = by4 b 16 := sh_255 b (by decide)
theorem fb6 (a b x y e : Int) : fbv a b x y e 6 = by4 b 8 := sh_255 b (by decide)
theorem fb7 (a b x y e : Int) : fbv a b x y e 7 = by4 b 0 := sh_255 b (by decide)
theorem fb8 (a b x y e : Int) : fbv a b x y e 8 = by4 x 24 := sh_255 x (by decide)
theorem fb9 (a b x y e : Int) : fbv a b x y e 9 = by4 x 16 := sh_255 x (by decide)
theorem fb10 (a b x y e : Int) : fbv a b x y e 10 = by4 x 8 := sh_255 x (by decide)
theorem fb11 (a b x y e : Int) : fbv a b x y e 11 = by4 x 0 := sh_255 x (by decide)
theorem fb12 (a b x y e : Int) : fbv a b x y e 12 = by4 y 24 := sh_255 y (by decide)
theorem fb13 (a b x y e : Int) : fbv a b x y e 13 = by4 y 16 := sh_255 y (by decide)
theorem fb14 (a b x y e : Int) : fbv a b x y e 14 = by4 y 8 := sh_255 y (by decide)
theorem fb15 (a b x y e : Int) : fbv a b x y e 15 = by4 y 0 := sh_255 y (by decide)
theorem fb16 (a b x y e : Int) : fbv a b x y e 16 = by4 e 24 := sh_255 e (by decide)
theorem fb17 (a b x y e : Int) : fbv a b x y e 17 = by4 e 16 := sh_255 e (by decide)
theorem fb18 (a b x y e : Int) : fbv a b x y e 18 = by4 e 8 := sh_255 e (by decide)
theorem fb19 (a b x y e : Int) : fbv a b x y e 19 = by4 e 0 := sh_255 e (by decide)
theorem fb_g {a b x y e k : Int} (hk : 0 ≤ k ∧ k < 20) : fbv a b x y e k = by4 (fv a b x y e k) (24 - 8 * (k % 4)) := by
  have hk : k = 0 ∨ k = 1 ∨ k = 2 ∨ k = 3 ∨ k = 4 ∨ k = 5 ∨ k = 6 ∨ k = 7 ∨ k = 8 ∨ k = 9 ∨ k = 10 ∨ k = 11 ∨ k = 12 ∨ k = 13 ∨ k = 14 ∨ k = 15 ∨ k = 16 ∨ k = 17 ∨ k = 18 ∨ k = 19 := by omega
  rcases hk with u | u | u | u | u | u | u | u | u | u | u | u | u | u | u | u | u | u | u | u
  · rw [u]; exact fb0 a b x y e
  · rw [u]; exact fb1 a b x y e
  · rw [u]; exact fb2 a b x y e
  · rw [u]; exact fb3 a b x y e
  · rw [u]; exact fb4 a b x y e
  · rw [u]; exact fb5 a b x y e
  · rw [u]; exact fb6 a b x y e
  · rw [u]; exact fb7 a b x y e
  · rw [u]; exact fb8 a b x y e
  · rw [u]; exact fb9 a b x y e
  · rw [u]; exact fb10 a b x y e
  · rw [u]; exact fb11 a b x y e
  · rw [u]; exact fb12 a b x y e
  · rw [u]; exact fb13 a b x y e
  · rw [u]; exact fb14 a b x y e
  · rw [u]; exact fb15 a b x y e
  · rw [u]; exact fb16 a b x y e
  · rw [u]; exact fb17 a b x y e
  · rw [u]; exact fb18 a b x y e
  · rw [u]; exact fb19 a b x y e
theorem pt4_at (v t : Int) (tp : Int → Int) (j : Int) : pt4 v t tp j = if t ≤ j ∧ j < t + 4 then by4 v (24 - 8 * (j - t)) else tp j := by
  unfold pt4
  by_cases q3 : j = t + 3
  · rw [if_pos q3, if_pos (by omega)]; congr 1; omega
  rw [if_neg q3]
  by_cases q2 : j = t + 2
  · rw [if_pos q2, if_pos (by omega)]; congr 1; omega
  rw [if_neg q2]
  by_cases q1 : j = t + 1
  · rw [if_pos q1, if_pos (by omega)]; congr 1; omega
  rw [if_neg q1]
  by_cases q0 : j = t
  · rw [if_pos q0, if_pos (by omega)]; congr 1; omega
  · rw [if_neg q0, if_neg (by omega)]
theorem feed_loop {a b x y e t : Int} (ht : 0 ≤ t ∧ t + 20 ≤ 700) (d : Nat) : ∀ (m : Nat) (k : Int) (h : Hp), WF h → ld h 311 2 = t → 0 ≤ k → k + m = 20 → ∃ h', V d 137 20 [(2, 311), (0, a), (0, b), (0, x), (0, y), (0, e), (0, k), (9, 0)] [] h = V d 137 110 [(2, 311), (9, 0), (9, 0), (9, 0), (9, 0), (9, 0), (9, 0), (9, 0)] [] h' ∧ WF h' ∧ FrM h h' ∧ (∀ q j, q ≠ 312 → ld h' q j = ld h q j) ∧ (∀ j, ¬ (t + k ≤ j ∧ j < t + 20) → ld h' 312 j = ld h 312 j) ∧ ∀ i, k ≤ i → i < 20 → ld h' 312 (t + i) = fbv a b x y e i
  | 0, k, h, w, e2, k0, hk => by
    refine ⟨h, ?_, w, FrM_rf, fun _ _ _ => rfl, fun _ _ => rfl, fun i i0 i1 => absurd i1 (by omega)⟩
    rw [e137_20, if_neg (by omega)]
  | m + 1, k, h, w, e2, k0, hk => by
    have w1 : WF (st h 312 (t + k) (fbv a b x y e k)) := wf_st w (n312 _)
    have l2 : ld (st h 312 (t + k) (fbv a b x y e k)) 311 2 = t := (ld_st_ne (Or.inl (by decide))).trans e2
    obtain ⟨h', a1, a2, a3, a4, a5, a6⟩ := feed_loop ht d m (k + 1) _ w1 l2 (by omega) (by omega)
    refine ⟨h', ?_, a2, FrM_tr (FrM_st FrM_rf (by decide) _ _) a3, fun q j q0 => (a4 q j q0).trans (ld_st_ne (Or.inl q0)), fun j hj => (a5 j (by omega)).trans (ld_st_ne (Or.inr (by omega))), fun i i0 i1 => ?_⟩
    · have e73 : V d 137 20 [(2, 311), (0, a), (0, b), (0, x), (0, y), (0, e), (0, k), (9, 0)] [] h = V d 137 73 [(2, 311), (0, a), (0, b), (0, x), (0, y), (0, e), (0, k), (9, 0)] [(0, fv a b x y e k)] h := by
        unfold fv
        rw [e137_20, if_pos (by omega)]
        by_cases q1 : k < 4
        · rw [if_pos q1, if_pos q1, e137_33]
        rw [if_neg q1, if_neg q1, e137_37]
        by_cases q2 : k < 8
        · rw [if_pos q2, if_pos q2]
        rw [if_neg q2, if_neg q2, e137_48]
        by_cases q3 : k < 12
        · rw [if_pos q3, if_pos q3]
        rw [if_neg q3, if_neg q3, e137_59]
        by_cases q4 : k < 16
        · rw [if_pos q4, if_pos q4]
        rw [if_neg q4, if_neg q4, e137_71]
      rw [e73, e137_73, if_pos (F_a311 w), if_pos (F_a311 w), P_311_1 w, e2, show w32 (t + k) = t + k by unfold w32; omega, if_neg (by decide), if_pos (W_a312 w), L_a312 w, if_pos (by omega)]
      show V d 137 104 _ _ (st h 312 (t + k) (fbv a b x y e k)) = _
      rw [e137_104, show w32 (k + 1) = k + 1 by unfold w32; omega, a1]
    · by_cases u : i = k
      · rw [u, a5 _ (by omega), ld_st_eq]
      · exact a6 i (by omega) i1
theorem rk_137 (c : RR n h z) (tb : 0 ≤ z.tn) (a b x y e : Int) (d : Nat) : OPr n h z d 137 [(2, 311), (0, a), (0, b), (0, x), (0, y), (0, e)] 0 (zFeed a b x y e z).1 n (zFeed a b x y e z).2 := by
  obtain ⟨c0, f0⟩ := RR_0 c 0
  have w := c.k.w
  have w0 := c0.k.w
  unfold zFeed
  by_cases q : 700 < z.tn + 20
  · rw [if_pos q]
    exact ⟨_, by rw [ce_137, e137_0, if_pos (W_a311 w), if_pos (F_a311 w0), c0.tn, if_pos (by omega), e137_15], c0, f0⟩
  · rw [if_neg q]
    obtain ⟨h1, a1, a2, a3, a4, a5, a6⟩ := feed_loop (a := a) (b := b) (x := x) (y := y) (e := e) (t := z.tn) ⟨tb, by omega⟩ d 20 0 _ w0 c0.tn (by decide) (by decide)
    have l2 : ld h1 311 2 = z.tn := (a4 311 2 (by decide)).trans c0.tn
    have w2 : WF (st h1 311 2 (z.tn + 20)) := wf_st a2 n311_2
    refine ⟨st h1 311 2 (z.tn + 20), ?_, RR_tape c0 w2 (fun q j q1 q2 q3 => (ld_st_ne (by omega)).trans (a4 q j q2)) (fun j j0 j1 => ?_) (ld_st_eq _ _ _ _), FrM_tr f0 (FrM_tr a3 (FrM_st FrM_rf (by decide) _ _))⟩
    · rw [ce_137, e137_0, if_pos (W_a311 w), if_pos (F_a311 w0), c0.tn, if_neg (by omega), e137_17, a1, e137_110, if_pos (F_a311 a2), l2, if_pos (W_a311 a2), show w32 (z.tn + 20) = z.tn + 20 by unfold w32; omega, e137_121, if_pos (F_a311 w2), ld_st_eq]
    · rw [ld_st_ne (Or.inl (by decide))]
      by_cases u : z.tn + 0 ≤ j ∧ j < z.tn + 20
      · have e6 := a6 (j - z.tn) (by omega) (by omega)
        rw [show z.tn + (j - z.tn) = j by omega] at e6
        rw [e6]
        rw [fb_g (k := j - z.tn) ⟨by omega, by omega⟩]
        unfold fv
        simp only [pt4_at]
        by_cases q1 : j - z.tn < 4
        · rw [if_pos q1, if_neg (by omega), if_neg (by omega), if_neg (by omega), if_neg (by omega), if_pos (by omega)]
          congr 1; omega
        by_cases q2 : j - z.tn < 8
        · rw [if_neg q1, if_pos q2, if_neg (by omega), if_neg (by omega), if_neg (by omega), if_pos (by omega)]
          congr 1; omega
        by_cases q3 : j - z.tn < 12
        · rw [if_neg q1, if_neg q2, if_pos q3, if_neg (by omega), if_neg (by omega), if_pos (by omega)]
          congr 1; omega
        by_cases q4 : j - z.tn < 16
        · rw [if_neg q1, if_neg q2, if_neg q3, if_pos q4, if_neg (by omega), if_pos (by omega)]
          congr 1; omega
        rw [if_neg q1, if_neg q2, if_neg q3, if_neg q4, if_pos (by omega)]
        congr 1; omega
      · rw [a5 j (by omega), c0.tp j j0 j1]
        unfold pt4
        repeat rw [if_neg (by omega)]
end FE
