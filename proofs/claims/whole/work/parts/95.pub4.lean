/-! layer 2: the class's methods: a text, days -/
theorem sOwn_0 (S : Wd) (p x i : Int) : sOwn S p x 0 i = S 0 i := by unfold sOwn; split <;> rfl
theorem sStroke_0 (T S : Wd) (p i : Int) : sStroke T S p 0 i = S 0 i := by
  unfold sStroke; split
  · rw [sOwn_0]; rfl
  · rfl
theorem fldS_0 {g : Int → Wd → Wd} (hg : ∀ k S i, g k S 0 i = S 0 i) : ∀ (n : Nat) (k : Int) (S : Wd) (i : Int), fldS g n k S 0 i = S 0 i
  | 0, _, _, _ => rfl
  | n + 1, k, S, i => by
    unfold fldS
    rw [fldS_0 hg n, hg]
theorem sDie_0 (T S : Wd) (x i : Int) : sDie T S x 0 i = S 0 i := by
  unfold sDie
  rw [fldS_0]
  · unfold sDie2 sDie1; split <;> rfl
  · intro k S i
    unfold sDie3
    split
    · split
      · rfl
      · exact sOwn_0 _ _ _ _
    · rfl
theorem fldP_0 {g : Int → Wd × Int → Wd × Int} (hg : ∀ k A i, (g k A).1 0 i = A.1 0 i) : ∀ (n : Nat) (k : Int) (A : Wd × Int) (i : Int), (fldP g n k A).1 0 i = A.1 0 i
  | 0, _, _, _ => rfl
  | n + 1, k, A, i => by
    unfold fldP
    rw [fldP_0 hg n, hg]
theorem sTake_0 (T S : Wd) (x a k i : Int) : (sTake T S x a k).1 0 i = S 0 i := by unfold sTake; split <;> rfl
theorem dayPay_0 (T S : Wd) (a b i : Int) : (dayPay T S a b).1 0 i = S 0 i := by
  unfold dayPay
  split
  · rfl
  · unfold sPay
    show (fldP (payK T _) _ 0 (S, 0)).1 0 i = _
    rw [fldP_0]
    intro k A i
    unfold payK
    split
    · unfold payB payM
      show (sTake T (sTake T A.1 _ _ _).1 _ _ _).1 0 i = _
      rw [sTake_0, sTake_0]
    · rfl
theorem dayLp_0 (T S : Wd) (a i : Int) : (dayLp T S a).1 0 i = S 0 i := by
  unfold dayLp
  split
  · rfl
  · unfold sLapse
    rw [fldP_0]
    intro k A i
    unfold lapK
    split <;> rfl
theorem daySt_0 (T S : Wd) (a b i : Int) : daySt T S a b 0 i = S 0 i := by
  unfold daySt
  split
  · exact sStroke_0 _ _ _ _
  · rfl
theorem sDay_0 (T S : Wd) (a b : Int) : sDay T S a b 0 0 = w32 (S 0 0 + 1) := by
  unfold sDay
  show w32 ((dayLp T _ a).1 0 0 + 1) = _
  rw [dayLp_0, daySt_0, dayPay_0]
def zDay1 (z : Zt) : Zt := (z.setS (sDay z.T z.S (-1) 0)).setDg (fun w t => if t = z.S 0 0 then (if w = 0 then dayPaid z.T z.S (-1) 0 else if w = 1 then dayPick z.T z.S (-1) 0 else dayLaps z.T z.S (-1) 0) else z.dg w t)
def zDayN : Nat → Zt → Zt
  | 0, z => z
  | n + 1, z => zDayN n (zDay1 z)
def zDays (n : Int) (z : Zt) : Int × Zt := if n < 0 ∨ 100 < n ∨ 100 < z.S 0 0 + n then (-1, z) else
  if n = 0 then (z.S 0 0, z) else ((zDayN n.toNat (z.setPast [])).S 0 0, zDayN n.toNat (z.setPast []))
section PE
variable {h h' : Hp} {z : Zt}
theorem day_step (c : CR h z) (hd : z.S 0 0 < 100) {n x : Int} (hx : x < n) (hx0 : 0 ≤ x) (hn : n ≤ 100) (d : Nat) : ∃ h', V (d + 8) 10 39 [(2, 1), (0, n), (0, x), (9, 0)] [] h = V (d + 8) 10 39 [(2, 1), (0, n), (0, x + 1), (9, 0)] [] h' ∧ CR h' (zDay1 z) ∧ FrC h h' := by
  have w := c.w
  have d0 := c.dok
  unfold DOK at d0
  have k0 : SOK (sV h 97 (ld h 1 3)) := by rw [c.S]; exact c.ok
  obtain ⟨h1, a1, m, p0, p1, p2⟩ := kq_109 c.ck k0 d (-1) 0
  rw [c.T, c.S] at m p0 p1 p2
  have ok : SOK (sDay z.T z.S (-1) 0) := SOK_day c.ok (cTOK c) _ _
  have e00 := sDay_0 z.T z.S (-1) 0
  rw [show w32 (z.S 0 0 + 1) = z.S 0 0 + 1 by unfold w32; omega] at e00
  obtain ⟨c1, f1⟩ := CR_Mx c m (Or.inl ⟨rfl, rfl⟩) ok (by unfold DOK; omega)
  have w1 := c1.w
  generalize ht : z.S 0 0 = t at *
  have r : 0 ≤ t ∧ t < 100 := by omega
  have n8 : ∀ j, npt 288 j := npt_A (by decide +kernel)
  have n9 : ∀ j, npt 289 j := npt_A (by decide +kernel)
  have n0 : ∀ j, npt 290 j := npt_A (by decide +kernel)
  have w2 : WF (st h1 288 t (dayPaid z.T z.S (-1) 0)) := wf_st w1 (n8 _)
  have w3 : WF (st (st h1 288 t (dayPaid z.T z.S (-1) 0)) 289 t (dayPick z.T z.S (-1) 0)) := wf_st w2 (n9 _)
  have w4 : WF (st (st (st h1 288 t (dayPaid z.T z.S (-1) 0)) 289 t (dayPick z.T z.S (-1) 0)) 290 t (dayLaps z.T z.S (-1) 0)) := wf_st w3 (n0 _)
  have g1 : ld (st h1 288 t (dayPaid z.T z.S (-1) 0)) 283 1 = dayPick z.T z.S (-1) 0 := (ld_st_ne (Or.inl (by decide))).trans p1
  have g2 : ld (st (st h1 288 t (dayPaid z.T z.S (-1) 0)) 289 t (dayPick z.T z.S (-1) 0)) 283 2 = dayLaps z.T z.S (-1) 0 := (ld_st_ne (Or.inl (by decide))).trans ((ld_st_ne (Or.inl (by decide))).trans p2)
  have fr : ∀ a j, ¬ (288 ≤ a ∧ a ≤ 290) → ld (st (st (st h1 288 t (dayPaid z.T z.S (-1) 0)) 289 t (dayPick z.T z.S (-1) 0)) 290 t (dayLaps z.T z.S (-1) 0)) a j = ld h1 a j := fun a j e => by rw [ld_st_ne (by omega), ld_st_ne (by omega), ld_st_ne (by omega)]
  refine ⟨_, ?_, CR_dgw c1 w4 fr (fun x s x0 x1 s0 s1 => ?_), FrC_tr f1 ⟨rfl, fun a j e => fr a j (by omega)⟩⟩
  · rw [e10_39, if_pos hx, if_pos (F_a1 w), P_1_5 w, if_pos (F_a97 w), cday c, ht, e10_52, if_pos (F_a1 w), if_pos (F_a1 w), P_1_10 w, if_pos (F_a283 w), P_1_5 w, Cl_eq _ a1, e10_65, if_neg (by omega), if_pos r.2, e10_75, if_pos (F_a1 w1), P_1_11 w1, if_pos (F_a287 w1), L_a287 w1, if_pos (by decide), if_pos (F_a1 w1), P_1_10 w1, if_pos (F_a283 w1), P_287_0 w1, if_pos (W_a288 w1), L_a288 w1, if_pos r, p0, e10_90, if_pos (F_a1 w2), P_1_11 w2, if_pos (F_a287 w2), L_a287 w2, if_pos (by decide), if_pos (F_a1 w2), P_1_10 w2, if_pos (F_a283 w2), P_287_1 w2, if_pos (W_a289 w2), L_a289 w2, if_pos r, g1, e10_105, if_pos (F_a1 w3), P_1_11 w3, if_pos (F_a287 w3), L_a287 w3, if_pos (by decide), if_pos (F_a1 w3), P_1_10 w3, if_pos (F_a283 w3), P_287_2 w3, if_pos (W_a290 w3), L_a290 w3, if_pos r, g2, e10_120, show w32 (x + 1) = x + 1 by unfold w32; omega]
  · have hx3 : x = 0 ∨ x = 1 ∨ x = 2 := by omega
    show _ = (if s = z.S 0 0 then _ else _)
    rw [ht]
    rcases hx3 with rfl | rfl | rfl
    · have := c1.dg 0 s (by decide) (by decide) s0 s1
      by_cases y : s = t
      · rw [if_pos y, if_pos rfl, y, ld_st_ne (Or.inl (by decide)), ld_st_ne (Or.inl (by decide))]; exact ld_st_eq _ _ _ _
      · rw [if_neg y, ld_st_ne (Or.inr y), ld_st_ne (Or.inr y), ld_st_ne (Or.inr y)]; exact this
    · have := c1.dg 1 s (by decide) (by decide) s0 s1
      by_cases y : s = t
      · rw [if_pos y, if_neg (by decide), if_pos rfl, y, ld_st_ne (Or.inl (by decide))]; exact ld_st_eq _ _ _ _
      · rw [if_neg y, ld_st_ne (Or.inr y), ld_st_ne (Or.inr y), ld_st_ne (Or.inr y)]; exact this
    · have := c1.dg 2 s (by decide) (by decide) s0 s1
      by_cases y : s = t
      · rw [if_pos y, if_neg (by decide), if_neg (by decide), y]; exact ld_st_eq _ _ _ _
      · rw [if_neg y, ld_st_ne (Or.inr y), ld_st_ne (Or.inr y), ld_st_ne (Or.inr y)]; exact this
theorem day_loop (d : Nat) : ∀ (m : Nat) (h : Hp) (z : Zt) (n x : Int), CR h z → z.S 0 0 + m ≤ 100 → 0 ≤ x → x + m = n → n ≤ 100 → ∃ h', V (d + 8) 10 39 [(2, 1), (0, n), (0, x), (9, 0)] [] h = some ((0, (zDayN m z).S 0 0), h') ∧ CR h' (zDayN m z) ∧ FrC h h'
  | 0, h, z, n, x, c, hd, x0, hx, hn => by
    refine ⟨h, ?_, c, FrC_rf⟩
    rw [e10_39, if_neg (by omega), e10_126, if_pos (F_a1 c.w), P_1_5 c.w, if_pos (F_a97 c.w), cday c]
    rfl
  | m + 1, h, z, n, x, c, hd, x0, hx, hn => by
    obtain ⟨h1, a1, c1, f1⟩ := day_step c (by omega) (n := n) (x := x) (by omega) x0 hn d
    have d0 := c.dok
    unfold DOK at d0
    have e00 : (zDay1 z).S 0 0 = z.S 0 0 + 1 := (sDay_0 z.T z.S (-1) 0).trans (by unfold w32; omega)
    obtain ⟨h', a, c', f⟩ := day_loop d m h1 (zDay1 z) n (x + 1) c1 (by omega) (by omega) (by omega) hn
    exact ⟨h', by rw [a1, a]; rfl, c', FrC_tr f1 f⟩
theorem kq_10 (c : CR h z) (n : Int) (d : Nat) : OPc h z (d + 8) 10 [(2, 1), (0, n)] 0 (zDays n z).1 (zDays n z).2 := by
  have w := c.w
  have d0 := c.dok
  unfold DOK at d0
  unfold zDays
  by_cases q0 : n < 0
  · rw [if_pos (Or.inl q0)]; exact OPc_rf c (by rw [ce_10, e10_0, if_pos q0, e10_24])
  by_cases q1 : 100 < n
  · rw [if_pos (Or.inr (Or.inl q1))]; exact OPc_rf c (by rw [ce_10, e10_0, if_neg q0, if_pos q1, e10_24])
  have e0 : C (d + 8) 10 [(2, 1), (0, n)] h = if 100 < z.S 0 0 + n then some ((0, -1), h) else V (d + 8) 10 26 [(2, 1), (0, n), (9, 0), (9, 0)] [] h := by
    rw [ce_10, e10_0, if_neg q0, if_neg q1, e10_10, if_pos (F_a1 w), P_1_5 w, if_pos (F_a97 w), cday c, show w32 (z.S 0 0 + n) = z.S 0 0 + n by unfold w32; omega, e10_24]
  by_cases q2 : 100 < z.S 0 0 + n
  · rw [if_pos (Or.inr (Or.inr q2))]; exact OPc_rf c (by rw [e0, if_pos q2])
  rw [if_neg (by omega)]
  rw [if_neg q2] at e0
  by_cases q3 : n = 0
  · rw [if_pos q3]
    refine OPc_rf c ?_
    rw [e0, q3, e10_26, if_neg (by decide), e10_37, e10_39, if_neg (by decide), e10_126, if_pos (F_a1 w), P_1_5 w, if_pos (F_a97 w), cday c]
  · rw [if_neg q3]
    obtain ⟨h1, a1, c1, f1, g1⟩ := CR_clear c (d + 7)
    obtain ⟨h', a, c', f⟩ := day_loop d n.toNat h1 _ n 0 c1 (by show z.S 0 0 + _ ≤ 100; omega) (by decide) (by omega) (by omega)
    exact ⟨h', by rw [e0, e10_26, if_pos (by omega), if_pos (F_a1 w), P_1_9 w, if_pos (F_a121 w), Cl_eq _ a1, e10_37, a], c', FrC_tr f1 f⟩
theorem kq_4 (c : CR h z) (n : Int) (d : Nat) : OPc h z (d + 10) 4 [(2, 1), (0, n)] 0 (zText n z).1 (zText n z).2 := by
  have w := c.w
  have tn := c.tn
  have tb := c.tnb
  unfold zText
  by_cases q0 : n < 0
  · rw [if_pos (Or.inl q0)]; exact OPc_rf c (by rw [ce_4, e4_0, if_pos q0, e4_12])
  by_cases q1 : z.tn < n
  · rw [if_pos (Or.inr q1)]; exact OPc_rf c (by rw [ce_4, e4_0, if_neg q0, if_pos (F_a1 w), tn, if_pos q1, e4_12])
  rw [if_neg (by omega)]
  have w0 : WF (st h 1 1 0) := wf_st w n11
  have f0 : ∀ a j, ¬ (a = 1 ∧ j = 1) → ld (st h 1 1 0) a j = ld h a j := fun a j e => ld_st_ne (by omega)
  obtain ⟨r, h1, a1, fd, ra⟩ := kq_34 (b := ld h 1 4) (n := n) w0 c.hd (by have := c.nb; unfold NB at this ⊢; rw [f0 4 5 (by decide)]; exact this) (by omega) d
  have etp : tpC (st h 1 1 0) = z.tp := (funext fun j => f0 2 j (by omega)).trans c.tp
  rw [etp] at ra
  have w1 := fd.1
  have hd3 := bk_b c.hd
  have hb3 := bk_b c.hb
  have hne := c.ne
  have f1 : ∀ a j, ¬ (ld h 1 4 ≤ a ∧ a < ld h 1 4 + 30) → a ≠ 4 → ¬ (a = 3 ∧ j ≠ 0 ∧ j ≠ 2) → ¬ a = 36 → ¬ (a = 1 ∧ j = 1) → ld h1 a j = ld h a j := fun a j e1 e2 e3 e4 e5 => (fd.2.2 a j e1 e2 e3 e4).trans (f0 a j e5)
  have nb1 := fd.2.1.2
  have s1 : h1.2 = h.2 := fd.2.1.1
  have e0 : C (d + 10) 4 [(2, 1), (0, n)] h = if r = 0 then some ((0, -1), h1) else V (d + 10) 4 41 [(2, 1), (9, 0), (9, 0)] [] h1 := by
    rw [ce_4, e4_0, if_neg q0, if_pos (F_a1 w), tn, if_neg q1, e4_15, if_pos (W_a1 w), if_pos (F_a1 w0), if_pos (F_a1 w0), if_pos (F_a1 w0), P_1_2 w0, if_pos (F_a3 w0), P_1_0 w0, f0 1 4 (by decide), Cl_eq _ a1, e4_39]
  have e3 : ld h1 1 3 = ld h 1 3 := f1 1 3 (by omega) (by decide) (by decide) (by decide) (by decide)
  have e4 : ld h1 1 4 = ld h 1 4 := f1 1 4 (by omega) (by decide) (by decide) (by decide) (by decide)
  have tn1 : ld h1 1 1 = 0 := (fd.2.2 1 1 (by omega) (by decide) (by decide) (by decide)).trans (ld_st_eq _ _ _ _)
  have etp1 : tpC h1 = z.tp := (funext fun j => f1 2 j (by omega) (by decide) (by omega) (by decide) (by omega)).trans c.tp
  have eS1 : ∀ t, t ∈ STL → EqS h h1 t := fun t ht i h0 h1 k => by
    have r := stl_r ht
    exact f1 _ _ (by omega) (by omega) (by omega) (by omega) (by omega)
  generalize rdL z.tp n 701 (fun _ _ => 0) 0 0 0 (lxP z.tp n 0) 0 = R at *
  cases R with
  | error e =>
    obtain ⟨k, pc, ln⟩ := e
    obtain ⟨r0, g7, g8, g6⟩ := ra
    have eb : EqB h h1 (ld h 1 3) := fun i h0 h1 _ _ _ k => f1 _ _ (by omega) (by omega) (by omega) (by omega) (by omega)
    have e121 := f1 121 1 (by omega) (by decide) (by decide) (by decide) (by decide)
    have e122 := f1 121 2 (by omega) (by decide) (by decide) (by decide) (by decide)
    have ep : ∀ i, psl h1 i = psl h i := fun i => by unfold psl; rw [e121, e122]
    refine ⟨h1, by rw [e0, if_pos r0], ?_, s1, fun a j e => f1 a j (by omega) (by omega) (by omega) (by omega) (by omega)⟩
    refine ⟨w1, by rw [e3]; exact c.hb, by rw [e4]; exact c.hd, by rw [e3, e4]; exact c.ne, etp1, tn1, (show (0 : Int) ≤ 0 ∧ (0 : Int) ≤ 700 by decide), nb1, g7, g8, by rw [e3, tC_eq eb]; exact c.T, by rw [e3]; exact CK_eq c.ck w1 eb (eS1 97 c.ck.2.1), by rw [e3]; exact (sV_eq eb (eS1 97 c.ck.2.1)).trans c.S, c.ok, c.dok, fun e => (f1 1 8 (by omega) (by decide) (by decide) (by decide) (by decide)).trans (c.im0 e), fun I e => ?_, fun w t w0 w1 t0 t1 => (f1 _ _ (by omega) (by omega) (by omega) (by omega) (by omega)).trans (c.dg w t w0 w1 t0 t1), by rw [e121]; exact c.pf, e122.trans c.pz, c.pl, fun i P e => ?_, fun k k0 k1 => (f1 309 k (by omega) (by decide) (by omega) (by decide) (by omega)).trans (c.sk k k0 k1), fun k k0 k1 => (f1 310 k (by omega) (by decide) (by omega) (by decide) (by omega)).trans (c.sa k k0 k1), (f1 308 2 (by omega) (by decide) (by decide) (by decide) (by decide)).trans c.sz, c.szb, (f1 308 3 (by omega) (by decide) (by decide) (by decide) (by decide)).trans c.kb, c.kbb⟩
    · obtain ⟨i1, i2, i3, i4⟩ := c.im1 I e
      have es := eS1 113 i2.2.1
      rw [e3]
      exact ⟨(f1 1 8 (by omega) (by decide) (by decide) (by decide) (by decide)).trans i1, CK_eq i2 w1 eb es, (sV_eq eb es).trans i3, i4⟩
    · obtain ⟨p1, p2, p3⟩ := c.past i P e
      have es := eS1 _ p1.2.1
      rw [e3, ep]
      exact ⟨CK_eq p1 w1 eb es, (sV_eq eb es).trans p2, p3⟩
  | ok v =>
    obtain ⟨T, tw, hl, kn, ln⟩ := v
    obtain ⟨r1, g7, g8, g6, gT, gK, gC, gI⟩ := ra
    have n14 : npt 1 4 := npt_J (by decide +kernel)
    have n13 : npt 1 3 := npt_J (by decide +kernel)
    have n18 : npt 1 8 := npt_J (by decide +kernel)
    have w2 : WF (st h1 1 4 (ld h 1 3)) := wf_st w1 n14
    have w3 : WF (st (st h1 1 4 (ld h 1 3)) 1 3 (ld h 1 4)) := wf_st w2 n13
    have f3 : ∀ a j, ¬ (a = 1 ∧ (j = 3 ∨ j = 4)) → ld (st (st h1 1 4 (ld h 1 3)) 1 3 (ld h 1 4)) a j = ld h1 a j := fun a j e => (ld_st_ne (by omega)).trans (ld_st_ne (by omega))
    have g33 : ld (st (st h1 1 4 (ld h 1 3)) 1 3 (ld h 1 4)) 1 3 = ld h 1 4 := ld_st_eq _ _ _ _
    have g34 : ld (st (st h1 1 4 (ld h 1 3)) 1 3 (ld h 1 4)) 1 4 = ld h 1 3 := (ld_st_ne (Or.inr (by decide))).trans (ld_st_eq _ _ _ _)
    have s3 : (st (st h1 1 4 (ld h 1 3)) 1 3 (ld h 1 4)).2 = h1.2 := rfl
    have e41 : V (d + 10) 4 41 [(2, 1), (9, 0), (9, 0)] [] h1 = Cl (d + 10) 85 [(2, 97), (2, ld h 1 4)] 9 (st (st h1 1 4 (ld h 1 3)) 1 3 (ld h 1 4)) (fun _ h1 => V (d + 10) 4 67 [(2, 1), (9, 0), (9, 0)] [] h1) := by
      rw [e4_41, if_pos (F_a1 w1), if_pos (F_a1 w1), if_pos (W_a1 w1), e3, e4, e4_54, if_pos (W_a1 w2), if_pos (F_a1 w3), P_1_5 w3, if_pos (F_a97 w3)]
    generalize hh3 : st (st h1 1 4 (ld h 1 3)) 1 3 (ld h 1 4) = h3 at *
    have eb3 : EqB h1 h3 (ld h 1 4) := fun i h0 h1 _ _ _ k => f3 _ _ (by omega)
    have gT3 : tC h3 (ld h 1 4) = T := (tC_eq eb3).trans gT
    have bk3 : BK h3 (ld h 1 4) := ⟨w3, c.hd, by rw [gT3]; exact gK, CB_eq eb3 gC, by rw [gT3]; exact gI⟩
    obtain ⟨h4, a4, m4⟩ := kq_85 (s := 97) bk3 (by decide) (d + 9)
    rw [gT3] at m4
    have w4 := m4.1
    have f4 : ∀ a j, scr a = false → ¬ (97 ≤ a ∧ a ≤ 103) → ld h4 a j = ld h3 a j := fun a j e1 e2 => m4.2.2.1 a j e1 (by omega)
    obtain ⟨a5, w5⟩ := kq_132 w4 (d + 9)
    have w6 : WF (st (st h4 121 2 0) 1 8 0) := wf_st w5 n18
    obtain ⟨a7, w7⟩ := kq_126 w6 (d + 9)
    have f7 : ∀ a j, ¬ (a = 121 ∧ j = 2) → ¬ (a = 1 ∧ j = 8) → ¬ (a = 308 ∧ (j = 2 ∨ j = 3)) → ld (st (st (st (st h4 121 2 0) 1 8 0) 308 2 0) 308 3 (-1)) a j = ld h4 a j := fun a j e1 e2 e3 => by rw [ld_st_ne (by omega), ld_st_ne (by omega), ld_st_ne (by omega), ld_st_ne (by omega)]
    have g82 : ld (st (st (st (st h4 121 2 0) 1 8 0) 308 2 0) 308 3 (-1)) 308 2 = 0 := (ld_st_ne (Or.inr (by decide))).trans (ld_st_eq _ _ _ _)
    have g83 : ld (st (st (st (st h4 121 2 0) 1 8 0) 308 2 0) 308 3 (-1)) 308 3 = -1 := ld_st_eq _ _ _ _
    have g18 : ld (st (st (st (st h4 121 2 0) 1 8 0) 308 2 0) 308 3 (-1)) 1 8 = 0 := by rw [ld_st_ne (by decide), ld_st_ne (by decide), ld_st_eq]
    have g122 : ld (st (st (st (st h4 121 2 0) 1 8 0) 308 2 0) 308 3 (-1)) 121 2 = 0 := by rw [ld_st_ne (by decide), ld_st_ne (by decide), ld_st_ne (by decide), ld_st_eq]
    have s7 : (st (st (st (st h4 121 2 0) 1 8 0) 308 2 0) 308 3 (-1)).2 = h4.2 := rfl
    have e67 : V (d + 10) 4 67 [(2, 1), (9, 0), (9, 0)] [] h4 = some ((0, ld (st (st (st (st h4 121 2 0) 1 8 0) 308 2 0) 308 3 (-1)) 3 6), st (st (st (st h4 121 2 0) 1 8 0) 308 2 0) 308 3 (-1)) := by
      rw [e4_67, if_pos (F_a1 w4), P_1_9 w4, if_pos (F_a121 w4), Cl_eq _ a5, if_pos (W_a1 w5), if_pos (by decide), e4_79, if_pos (F_a1 w6), P_1_14 w6, if_pos (F_a308 w6), Cl_eq _ a7, if_pos (F_a1 w7), P_1_2 w7, if_pos (F_a3 w7)]
    generalize st (st (st (st h4 121 2 0) 1 8 0) 308 2 0) 308 3 (-1) = h7 at *
    have fq : ∀ a j, (a ≤ 36 ∨ 283 ≤ a) → ¬ (a = 1 ∧ (j = 1 ∨ j = 3 ∨ j = 4 ∨ j = 8)) → a ≠ 4 → a ≠ 3 → a ≠ 36 → ¬ (a = 308 ∧ (j = 2 ∨ j = 3)) → ld h7 a j = ld h a j := fun a j e e2 e3 e4 e5 e6 => by
      rw [f7 a j (by omega) (by omega) (by omega), f4 a j (scr_if (by omega)) (by omega), f3 a j (by omega)]
      exact f1 a j (by omega) (by omega) (by omega) (by omega) (by omega)
    have fh1 : ∀ a j, (a ≤ 36 ∨ 283 ≤ a) → ¬ (a = 1 ∧ (j = 3 ∨ j = 4 ∨ j = 8)) → ¬ (a = 308 ∧ (j = 2 ∨ j = 3)) → ld h7 a j = ld h1 a j := fun a j e e2 e3 => by
      rw [f7 a j (by omega) (by omega) (by omega), f4 a j (scr_if (by omega)) (by omega), f3 a j (by omega)]
    have k3 : ld h7 1 3 = ld h 1 4 := by rw [f7 1 3 (by decide) (by decide) (by decide), f4 1 3 (scr_if (by omega)) (by omega)]; exact g33
    have k4 : ld h7 1 4 = ld h 1 3 := by rw [f7 1 4 (by decide) (by decide) (by decide), f4 1 4 (scr_if (by omega)) (by omega)]; exact g34
    have eb4 : EqB h3 h4 (ld h 1 4) := Mx_B (lo := 283) (hi := 286) (Mx_of m4) (by decide) (by decide) c.hd
    have eb7 : EqB h4 h7 (ld h 1 4) := fun i h0 h1 _ _ _ k => f7 _ _ (by omega) (by omega) (by omega)
    have es7 : EqS h4 h7 97 := fun i h0 h1 k => f7 _ _ (by omega) (by omega) (by omega)
    have T4 : tC h4 (ld h 1 4) = T := (tC_eq eb4).trans gT3
    have ok : SOK (sInit T) := SOK_init gI
    have ck4 : CK h4 97 (ld h 1 4) := ⟨w4, by decide, c.hd, m4.2.2.2.1, by rw [T4]; exact gK, CB_eq eb4 bk3.2.2.2.1, by rw [T4]; exact gI, by rw [m4.2.2.2.2]; exact ok.1⟩
    refine ⟨h7, ?_, ?_, s7.trans (m4.2.1.trans (s3.trans s1)), fun a j e => fq a j (by omega) (by omega) (by omega) (by omega) (by omega) (by omega)⟩
    · rw [e0, r1, if_neg (by decide), e41, Cl_eq _ a4, e67, fh1 3 6 (by decide) (by decide) (by decide), g6]
    · refine ⟨w7, by rw [k3]; exact c.hd, by rw [k4]; exact c.hb, by rw [k3, k4]; exact fun e => hne e.symm, (funext fun j => fq 2 j (by omega) (by omega) (by decide) (by decide) (by decide) (by omega)).trans c.tp, (fh1 1 1 (by decide) (by decide) (by decide)).trans tn1, (show (0 : Int) ≤ 0 ∧ (0 : Int) ≤ 700 by decide), by unfold NB at nb1 ⊢; rw [fh1 4 5 (by decide) (by decide) (by decide)]; exact nb1, (fh1 3 7 (by decide) (by decide) (by decide)).trans g7, (fh1 3 8 (by decide) (by decide) (by decide)).trans g8, by rw [k3]; exact (tC_eq eb7).trans T4, by rw [k3]; exact CK_eq ck4 w7 eb7 es7, by rw [k3]; exact (sV_eq eb7 es7).trans m4.2.2.2.2, ok, (show DOK (sInit T) from (show (0 : Int) ≤ 0 ∧ (0 : Int) ≤ 100 by decide)), fun _ => g18, (fun I e => by cases e), fun w t w0 w1 t0 t1 => (fq _ _ (by omega) (by omega) (by omega) (by omega) (by omega) (by omega)).trans (c.dg w t w0 w1 t0 t1), ?_, g122, Nat.zero_le _, (fun i P e => by cases i <;> cases e), fun k k0 k1 => (fq 309 k (by omega) (by omega) (by decide) (by decide) (by decide) (by omega)).trans (c.sk k k0 k1), fun k k0 k1 => (fq 310 k (by omega) (by omega) (by decide) (by decide) (by decide) (by omega)).trans (c.sa k k0 k1), g82, (show (0 : Int) ≤ 0 ∧ (0 : Int) ≤ 24 by decide), g83, (show (-1 : Int) ≤ -1 ∧ (-1 : Int) ≤ 0 by decide)⟩
      rw [f7 121 1 (by decide) (by decide) (by decide), f4 121 1 (scr_if (by omega)) (by omega), f3 121 1 (by decide), f1 121 1 (by omega) (by decide) (by decide) (by decide) (by decide)]
      exact c.pf
end PE
