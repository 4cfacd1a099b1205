/-! layer 2: the painter's day -/
/-- as Md, with an object's own cells lo to hi -/
def Mx (lo hi s b : Int) (h h' : Hp) (S' : Wd) : Prop := WF h' ∧ h'.2 = h.2 ∧ (∀ a j : Int, scr a = false → ¬ (s ≤ a ∧ a ≤ s + 6) → ¬ (lo ≤ a ∧ a ≤ hi) → h'.1 a j = h.1 a j) ∧ ld h' s 0 = b ∧ sV h' s b = S'
section MX
variable {lo hi s b : Int} {h h' : Hp} {S' : Wd}
theorem Mx_of (m : Md s b h h' S') : Mx lo hi s b h h' S' := ⟨m.1, m.2.1, fun a j e1 e2 _ => m.2.2.1 a j e1 e2, m.2.2.2⟩
theorem Mx_tr {h1 h2 : Hp} {S1 S2 : Wd} (m : Mx lo hi s b h h1 S1) (n : Mx lo hi s b h1 h2 S2) : Mx lo hi s b h h2 S2 := ⟨n.1, n.2.1.trans m.2.1, fun a j e1 e2 e3 => (n.2.2.1 a j e1 e2 e3).trans (m.2.2.1 a j e1 e2 e3), n.2.2.2⟩
theorem Mx_B {c : Int} (m : Mx lo hi s b h h' S') (hl : 275 < lo) (hs : s ∈ STL) (hc : c ∈ BKL) : EqB h h' c := fun j h0 h1 a1 a2 a3 k => m.2.2.1 (c + j) k (by
  have := List.all_eq_true.mp (List.all_eq_true.mp scr_b c hc) j (List.mem_map.mpr ⟨j.toNat, List.mem_range.mpr (by omega), by omega⟩)
  rw [Bool.or_eq_true, decide_eq_true_eq, Bool.not_eq_true'] at this
  exact this.resolve_left (by omega)) (by have := st_b hs; rcases bk_b hc with rfl | rfl <;> omega) (by rcases bk_b hc with rfl | rfl <;> omega)
theorem Mx_S {t : Int} (m : Mx lo hi s b h h' S') (hl : 282 < lo) (hs : s ∈ STL) (ht : t ∈ STL) (e : t ≠ s) : EqS h h' t := fun j h0 h1 k => m.2.2.1 (t + j) k (scr_at ht h0 (by omega)) (by have := st_sep ht hs e; omega) (by have := st_b ht; omega)
theorem CK_mx (c : CK h s b) (m : Mx lo hi s b h h' S') (hl : 275 < lo) (k : SOK S') : CK h' s b ∧ tC h' b = tC h b ∧ sV h' s b = S' := by
  have eb := Mx_B m hl c.2.1 c.2.2.1
  obtain ⟨-, c2, c3, c4, c5, c6, c7, c8⟩ := c
  exact ⟨⟨m.1, c2, c3, m.2.2.2.1, by rw [tC_eq eb]; exact c5, CB_eq eb c6, by rw [tC_eq eb]; exact c7, by rw [m.2.2.2.2]; exact k.1⟩, tC_eq eb, m.2.2.2.2⟩
theorem CK_xo {t b' : Int} (m : Mx lo hi s b h h' S') (hl : 282 < lo) (hs : s ∈ STL) (c : CK h t b') (e : t ≠ s) : CK h' t b' ∧ tC h' b' = tC h b' ∧ sV h' t b' = sV h t b' := by
  have eb := Mx_B m (by omega) hs c.2.2.1
  have es := Mx_S m hl hs c.2.1 e
  exact ⟨CK_eq c m.1 eb es, tC_eq eb, sV_eq eb es⟩
/-- a cell of the object's own -/
theorem Mx_st {a j v : Int} (c : CK h s b) (ha : lo ≤ a ∧ a ≤ hi) (hl : 282 < lo) (hn : npt a j) : Mx lo hi s b h (st h a j v) (sV h s b) := by
  obtain ⟨w, hs, hb, e, -⟩ := id c
  have r := st_b hs
  have eb : EqB h (st h a j v) b := fun i h0 h1 _ _ _ k => ld_st_ne (Or.inl (by rcases bk_b hb with rfl | rfl <;> omega))
  have es : EqS h (st h a j v) s := fun i h0 h1 k => ld_st_ne (Or.inl (by omega))
  exact ⟨wf_st w hn, rfl, fun x y _ _ e3 => ld_st_ne (Or.inl (fun z => e3 (z ▸ ha))), (EqS_0 es 0).trans e, sV_eq eb es⟩
end MX
section PN
variable {h : Hp} {s b : Int}
/-- a search on a heap whose scratch places change -/
theorem lpFx {G : Int → Hp → Rt} {f : Int → Bool} {N : Int} (w : WF h) (hN : 0 ≤ N) (he : ∀ h1, FrS h h1 → G N h1 = some ((0, -1), h1)) (hs : ∀ k h1, 0 ≤ k → k < N → FrS h h1 → ∃ h2, FrS h1 h2 ∧ G k h1 = if f k = true then some ((0, k), h2) else G (k + 1) h2) : ∃ h', G 0 h = some ((0, fnd f N.toNat 0), h') ∧ FrS h h' := by
  have key : ∀ (n : Nat) (k : Int) (h1 : Hp), 0 ≤ k → k + n = N → FrS h h1 → ∃ h', G k h1 = some ((0, fnd f n k), h') ∧ FrS h h' := by
    intro n
    induction n with
    | zero => intro k h1 hk hn f1; rw [show k = N by omega]; exact ⟨h1, he h1 f1, f1⟩
    | succ n ih =>
      intro k h1 hk hn f1
      obtain ⟨h2, f2, a⟩ := hs k h1 hk (by omega) f1
      rw [a]
      unfold fnd
      split
      · exact ⟨h2, rfl, FrS_tr f1 f2⟩
      · exact ih (k + 1) h2 (by omega) (by omega) (FrS_tr f1 f2)
  exact key N.toNat 0 h (by omega) (by omega) (FrS_rf w)
def sDue (T S : Wd) (x : Int) : Int := fnd (fun p => decide (T 12 p = x) && (!qLap S p && (!qDone T S p && !qPaid T S p))) (T 2 0).toNat 0
theorem fnd_rng {f : Int → Bool} : ∀ (n : Nat) (k : Int), fnd f n k = -1 ∨ (k ≤ fnd f n k ∧ fnd f n k < k + n ∧ f (fnd f n k) = true)
  | 0, _ => Or.inl rfl
  | n + 1, k => by
    unfold fnd
    split
    · rename_i q; exact Or.inr ⟨by omega, by omega, q⟩
    · rcases fnd_rng n (k + 1) with q | ⟨q1, q2, q3⟩
      · exact Or.inl q
      · exact Or.inr ⟨by omega, by omega, q3⟩
theorem qPaid_b {T S : Wd} {p : Int} : (S 7 p < sPrice T S p) = (qPaid T S p = false) := by unfold qPaid; simp
theorem kq_111 (c : CK h s b) (d : Nat) (y x : Int) : ∃ h', C (d + 5) 111 [(2, y), (2, s), (0, x)] h = some ((0, sDue (tC h b) (sV h s b) x), h') ∧ FrS h h' := by
  obtain ⟨w, hs, hb, e, hT, -⟩ := id c
  have hN : 0 ≤ ld h b 11 ∧ ld h b 11 ≤ 10 := hT.2.2.1
  rw [ce_111, e111_0]
  refine lpFx (N := ld h b 11) (G := fun k h1 => V (d + 5) 111 2 [(9, 0), (2, s), (0, x), (0, k)] [] h1) w hN.1 ?_ ?_
  · intro h1 f1
    obtain ⟨c1, t1, s1⟩ := CK_fr c f1
    obtain ⟨w1, -, -, e1, -⟩ := id c1
    have p1 : ld h1 b 11 = ld h b 11 := congrFun (congrFun t1 2) 0
    show V (d + 5) 111 2 _ _ _ = _
    rw [e111_2]; simp only [sfF0 w1 hs, e1, bfF0 w1 hb, p1, if_true, Int.lt_irrefl, if_false, e111_64]
  · intro k h1 h0 hk f1
    obtain ⟨c1, t1, s1⟩ := CK_fr c f1
    obtain ⟨w1, -, -, e1, hT1, -⟩ := id c1
    have p1 : ld h1 b 11 = ld h b 11 := congrFun (congrFun t1 2) 0
    have hkp : 0 ≤ k ∧ k < ld h1 b 11 := by omega
    obtain ⟨h2, a2, f2⟩ := kq_93 c1 hkp d
    rw [t1, s1] at a2
    show ∃ h2, _ ∧ V (d + 5) 111 2 _ _ _ = _
    rw [e111_2]
    simp only [sfF0 w1 hs, sfW0 w1 hs, sfF1 w1 hs, sfW1 w1 hs, sfL1 w1 hs, sfF2 w1 hs, sfW2 w1 hs, sfL2 w1 hs, sfF3 w1 hs, sfW3 w1 hs, sfL3 w1 hs, sfF4 w1 hs, sfW4 w1 hs, sfL4 w1 hs, sfF5 w1 hs, sfW5 w1 hs, sfL5 w1 hs, sfF6 w1 hs, sfW6 w1 hs, sfL6 w1 hs, sfF7 w1 hs, sfW7 w1 hs, sfL7 w1 hs, sfP6 w1 hs, sfP7 w1 hs, sfP8 w1 hs, sfP9 w1 hs, sfP11 w1 hs, sfP12 w1 hs, sfP13 w1 hs, e1, bfF0 w1 hb, bfW0 w1 hb, bfF1 w1 hb, bfW1 w1 hb, bfL1 w1 hb, bfF2 w1 hb, bfW2 w1 hb, bfL2 w1 hb, bfF3 w1 hb, bfW3 w1 hb, bfL3 w1 hb, bfF4 w1 hb, bfW4 w1 hb, bfL4 w1 hb, bfF5 w1 hb, bfW5 w1 hb, bfL5 w1 hb, bfF6 w1 hb, bfW6 w1 hb, bfL6 w1 hb, bfF7 w1 hb, bfW7 w1 hb, bfL7 w1 hb, bfF8 w1 hb, bfW8 w1 hb, bfL8 w1 hb, bfF9 w1 hb, bfW9 w1 hb, bfL9 w1 hb, bfF10 w1 hb, bfW10 w1 hb, bfL10 w1 hb, bfF11 w1 hb, bfW11 w1 hb, bfL11 w1 hb, bfF12 w1 hb, bfW12 w1 hb, bfL12 w1 hb, bfF13 w1 hb, bfW13 w1 hb, bfL13 w1 hb, bfF14 w1 hb, bfW14 w1 hb, bfL14 w1 hb, bfF15 w1 hb, bfW15 w1 hb, bfL15 w1 hb, bfF16 w1 hb, bfW16 w1 hb, bfL16 w1 hb, bfF17 w1 hb, bfW17 w1 hb, bfL17 w1 hb, bfP1 w1 hb, bfP2 w1 hb, bfP3 w1 hb, bfP5 w1 hb, bfP6 w1 hb, bfP7 w1 hb, bfP9 w1 hb, bfP10 w1 hb, bfP12 w1 hb, bfP13 w1 hb, bfP14 w1 hb, bfP16 w1 hb, bfP18 w1 hb, bfP19 w1 hb, if_true, h0, show k < ld h1 b 11 by omega, show k < 10 by omega, and_self, e111_13, tC_12 hkp, e111_58, wk h0 hk (by omega), t1, e111_26, Cl_eq _ (kq_88 w1 hs (d + 4) (ld h1 b 4) (ld h1 b 11) k), Cl_eq _ (kq_89 w1 hs hb e1 hT1 (d + 2) hkp), bI_e0, e111_42, Cl_eq _ a2, e111_56, sC_7 (ns := ld h1 b 4) hkp, show sC h1 s (ld h1 b 4) (ld h1 b 11) = sV h s b from s1, s1, qPaid_b]
    by_cases q : tC h b 12 k = x
    · simp only [q, decide_true, Bool.true_and, if_true]
      cases qLap (sV h s b) k <;> cases qDone (tC h b) (sV h s b) k <;> cases qPaid (tC h b) (sV h s b) k <;> simp only [reduceCtorEq, if_true, if_false, Bool.not_true, Bool.not_false, Bool.and_true, Bool.and_false, Bool.true_and, Bool.false_and, Bool.and_self, Bool.false_eq_true] <;> first | exact ⟨h2, f2, rfl⟩ | exact ⟨h1, FrS_rf w1, rfl⟩
    · simp only [q, decide_false, Bool.false_and, if_false]
      exact ⟨h1, FrS_rf w1, rfl⟩
def sTake (T S : Wd) (x amt skip : Int) : Wd × Int := if qSit T x = true ∧ ¬ x = skip then (up2 S 6 x (w32 (S 6 x - imin amt (S 6 x))), imin amt (S 6 x)) else (S, 0)
theorem imin_I {a b : Int} (ha : I32 a) (hb : I32 b) : I32 (imin a b) := by unfold imin; split <;> assumption
theorem imax_I {a b : Int} (ha : I32 a) (hb : I32 b) : I32 (imax a b) := by unfold imax; split <;> assumption
theorem SOK_take {T S : Wd} (k : SOK S) (x amt skip : Int) : SOK (sTake T S x amt skip).1 := by
  unfold sTake
  split
  · exact SOK_up2 k (w32_I _) (by decide)
  · exact k
theorem kq_112 (c : CK h s b) (d : Nat) (y x amt skip : Int) : ∃ h', C (d + 1) 112 [(2, y), (2, s), (0, x), (0, amt), (0, skip)] h = some ((0, (sTake (tC h b) (sV h s b) x amt skip).2), h') ∧ Md s b h h' (sTake (tC h b) (sV h s b) x amt skip).1 := by
  obtain ⟨w, hs, hb, e, hT, -⟩ := id c
  have hN : 0 ≤ ld h b 4 ∧ ld h b 4 ≤ 5 := hT.2.1
  rw [ce_112, e112_0]
  simp only [sfF0 w hs, e, bfF0 w hb, if_true, Cl_eq _ (kq_67 w hb d x), bI_e0, e112_17, e112_11]
  unfold sTake
  by_cases q : qSit (tC h b) x = true
  · have qr : 0 ≤ x ∧ x < ld h b 4 := qSit_iff.mp q
    rw [q, if_neg (by decide)]
    by_cases q2 : x = skip
    · rw [if_pos q2, if_neg (fun z => z.2 q2)]; exact ⟨h, rfl, Md_rf c⟩
    · rw [if_neg q2, if_pos ⟨rfl, q2⟩, e112_19]
      simp only [sfF0 w hs, sfW0 w hs, sfF1 w hs, sfW1 w hs, sfL1 w hs, sfF2 w hs, sfW2 w hs, sfL2 w hs, sfF3 w hs, sfW3 w hs, sfL3 w hs, sfF4 w hs, sfW4 w hs, sfL4 w hs, sfF5 w hs, sfW5 w hs, sfL5 w hs, sfF6 w hs, sfW6 w hs, sfL6 w hs, sfF7 w hs, sfW7 w hs, sfL7 w hs, sfP6 w hs, sfP7 w hs, sfP8 w hs, sfP9 w hs, sfP11 w hs, sfP12 w hs, sfP13 w hs, if_true, qr.1, show x < 5 by omega, and_self, sC_6 (np := ld h b 11) qr, Cl_eq _ (min245 d _ _), e112_31, e112_42]
      exact ⟨_, rfl, Md_u6 c qr _⟩
  · rw [if_pos (Bool.eq_false_iff.mpr q), if_neg (fun z => q z.1)]
    exact ⟨h, rfl, Md_rf c⟩
def dueOf (T S : Wd) (k : Int) : Int := if qLiv S k = true then sDue T S k else -1
def payH (T S : Wd) (k amt : Int) : Int := if qSit T (T 10 k) = true ∧ qLiv S (T 10 k) = true then w32 (amt.tdiv 2) else 0
def payM (T : Wd) (skip k due tot amt half : Int) (S : Wd) : Wd × Int :=
  let B := sTake T S k (w32 (amt - half)) skip
  let D := sTake T B.1 (T 10 k) half skip
  let g := w32 (B.2 + D.2)
  (up2 D.1 7 due (w32 (D.1 7 due + g)), w32 (tot + g))
def payB (T S : Wd) (skip k due tot : Int) : Wd × Int :=
  let amt := imin (T 9 k) (w32 (sPrice T S due - S 7 due))
  payM T skip k due tot amt (payH T S k amt) S
def payK (T : Wd) (skip k : Int) (A : Wd × Int) : Wd × Int :=
  if qPie T (dueOf T A.1 k) = true then payB T A.1 skip k (dueOf T A.1 k) A.2 else A
def fldP (g : Int → Wd × Int → Wd × Int) : Nat → Int → Wd × Int → Wd × Int
  | 0, _, A => A
  | n + 1, k, A => fldP g n (k + 1) (g k A)
def sPay (T S : Wd) (skip : Int) : Wd × Int :=
  let A := fldP (payK T skip) (T 1 0).toNat 0 (S, 0)
  (up1 A.1 1 (w32 (A.1 1 0 + A.2)), A.2)
theorem SOK_payK {T : Wd} {skip k : Int} {A : Wd × Int} (kk : SOK A.1) : SOK (payK T skip k A).1 := by
  unfold payK
  split
  · exact SOK_up2 (f := 7) (SOK_take (SOK_take kk _ _ _) _ _ _) (w32_I _) (by decide)
  · exact kk
theorem SOK_fldP {g : Int → Wd × Int → Wd × Int} (hg : ∀ k A, SOK A.1 → SOK (g k A).1) : ∀ (n : Nat) (k : Int) (A : Wd × Int), SOK A.1 → SOK (fldP g n k A).1
  | 0, _, _, h => h
  | n + 1, k, A, h => SOK_fldP hg n (k + 1) (g k A) (hg k A h)
theorem SOK_pay {T S : Wd} (kk : SOK S) (skip : Int) : SOK (sPay T S skip).1 := SOK_up1 (SOK_fldP (fun _ _ h => SOK_payK h) _ _ _ kk) (w32_I _) (by decide)
theorem kq_110 (c : CK h s b) (k0 : SOK (sV h s b)) (d : Nat) (skip : Int) : ∃ h', C (d + 6) 110 [(2, 283), (2, s), (0, skip)] h = some ((0, (sPay (tC h b) (sV h s b) skip).2), h') ∧ Md s b h h' (sPay (tC h b) (sV h s b) skip).1 := by
  obtain ⟨w, hs, hb, e, hT, -⟩ := id c
  have hN : 0 ≤ ld h b 4 ∧ ld h b 4 ≤ 5 := hT.2.1
  have key : ∀ (n : Nat) (k tot : Int) (h1 : Hp), CK h1 s b → SOK (sV h1 s b) → tC h1 b = tC h b → 0 ≤ k → k + n = ld h b 4 →
      ∃ h', V (d + 6) 110 5 [(2, 283), (2, s), (0, skip), (0, tot), (0, k), (9, 0), (9, 0), (9, 0), (9, 0), (9, 0)] [] h1 = some ((0, (fldP (payK (tC h b) skip) n k (sV h1 s b, tot)).2), h') ∧ Md s b h1 h' (up1 (fldP (payK (tC h b) skip) n k (sV h1 s b, tot)).1 1 (w32 ((fldP (payK (tC h b) skip) n k (sV h1 s b, tot)).1 1 0 + (fldP (payK (tC h b) skip) n k (sV h1 s b, tot)).2))) := by
    intro n
    induction n with
    | zero =>
      intro k tot h1 c1 k1 t1 hk hn
      obtain ⟨w1, -, -, e1, -⟩ := id c1
      have p1 : ld h1 b 4 = ld h b 4 := congrFun (congrFun t1 1) 0
      refine ⟨st h1 s 2 (w32 (ld h1 s 2 + tot)), ?_, Md_u1 c1 _⟩
      rw [e110_5, if_pos (sfF0 w1 hs), e1, if_pos (bfF0 w1 hb), if_neg (by omega), e110_172, if_pos (sfF0 w1 hs), if_pos (sfW0 w1 hs), e110_182]
      rfl
    | succ n ih =>
      intro k tot h1 c1 k1 t1 hk hn
      obtain ⟨w1, -, -, e1, hT1, -⟩ := id c1
      have n1 : ld h1 b 4 = ld h b 4 := congrFun (congrFun t1 1) 0
      have p1 : ld h1 b 11 = ld h b 11 := congrFun (congrFun t1 2) 0
      have hks : 0 ≤ k ∧ k < ld h1 b 4 := by omega
      rw [e110_5, if_pos (sfF0 w1 hs), e1, if_pos (bfF0 w1 hb), if_pos hks.2, e110_17, if_pos (sfF0 w1 hs), Cl_eq _ (kq_87 w1 hs (d + 5) (ld h1 b 4) (ld h1 b 11) k)]
      simp only [bI_e0]
      have nx : ∀ (x2 : Int) (hh : Hp), V (d + 6) 110 166 [(2, 283), (2, s), (0, skip), (0, x2), (0, k), (9, 0), (9, 0), (9, 0), (9, 0), (9, 0)] [] hh = V (d + 6) 110 5 [(2, 283), (2, s), (0, skip), (0, x2), (0, k + 1), (9, 0), (9, 0), (9, 0), (9, 0), (9, 0)] [] hh := fun x2 hh => by rw [e110_166, wk hk (show k < ld h b 4 by omega) (by omega)]
      -- the rest, once the step is known
      have fin : ∀ (x2 : Int) (h2 : Hp) (S2 : Wd), Md s b h1 h2 S2 → SOK S2 → payK (tC h b) skip k (sV h1 s b, tot) = (S2, x2) →
          ∃ h', V (d + 6) 110 166 [(2, 283), (2, s), (0, skip), (0, x2), (0, k), (9, 0), (9, 0), (9, 0), (9, 0), (9, 0)] [] h2 = some ((0, (fldP (payK (tC h b) skip) (n + 1) k (sV h1 s b, tot)).2), h') ∧ Md s b h1 h' (up1 (fldP (payK (tC h b) skip) (n + 1) k (sV h1 s b, tot)).1 1 (w32 ((fldP (payK (tC h b) skip) (n + 1) k (sV h1 s b, tot)).1 1 0 + (fldP (payK (tC h b) skip) (n + 1) k (sV h1 s b, tot)).2))) := by
        intro x2 h2 S2 m2 k2 ee
        obtain ⟨c2, t2, s2⟩ := CK_md c1 m2 k2
        obtain ⟨h', a, m⟩ := ih (k + 1) x2 h2 c2 (by rw [s2]; exact k2) (t2.trans t1) (by omega) (by omega)
        refine ⟨h', ?_, Md_tr m2 ?_⟩
        · rw [nx, a, s2]
          show _ = some ((0, (fldP (payK (tC h b) skip) n (k + 1) (payK (tC h b) skip k (sV h1 s b, tot))).2), h')
          rw [ee]
        · rw [s2] at m
          show Md s b h2 h' (up1 (fldP (payK (tC h b) skip) n (k + 1) (payK (tC h b) skip k (sV h1 s b, tot))).1 1 (w32 ((fldP (payK (tC h b) skip) n (k + 1) (payK (tC h b) skip k (sV h1 s b, tot))).1 1 0 + (fldP (payK (tC h b) skip) n (k + 1) (payK (tC h b) skip k (sV h1 s b, tot))).2)))
          rw [ee]; exact m
      -- what is due
      have body : ∀ (due : Int) (h2 : Hp), FrS h1 h2 → (if qLiv (sV h1 s b) k = true then sDue (tC h b) (sV h1 s b) k else -1) = due →
          ∃ h', V (d + 6) 110 37 [(2, 283), (2, s), (0, skip), (0, tot), (0, k), (9, 0), (9, 0), (9, 0), (9, 0), (9, 0)] [(0, due)] h2 = some ((0, (fldP (payK (tC h b) skip) (n + 1) k (sV h1 s b, tot)).2), h') ∧ Md s b h1 h' (up1 (fldP (payK (tC h b) skip) (n + 1) k (sV h1 s b, tot)).1 1 (w32 ((fldP (payK (tC h b) skip) (n + 1) k (sV h1 s b, tot)).1 1 0 + (fldP (payK (tC h b) skip) (n + 1) k (sV h1 s b, tot)).2))) := by
        intro due h2 f2 hdue
        obtain ⟨c2, t2, s2⟩ := CK_fr c1 f2
        obtain ⟨w2, -, -, e2, hT2, -⟩ := id c2
        have tt2 : tC h2 b = tC h b := t2.trans t1
        have n2 : ld h2 b 4 = ld h b 4 := congrFun (congrFun tt2 1) 0
        have p2 : ld h2 b 11 = ld h b 11 := congrFun (congrFun tt2 2) 0
        rw [e110_37, if_pos (sfF0 w2 hs), e2, if_pos (bfF0 w2 hb), Cl_eq _ (kq_68 w2 hb (d + 5) due), tt2]
        simp only [bI_e0]
        by_cases hq : qPie (tC h b) due = true
        · have hdp : 0 ≤ due ∧ due < ld h2 b 11 := by rw [p2]; exact qPie_iff.mp hq
          have hd10 : due < 10 := (pie_b hT2 hdp).1.2
          have hks2 : 0 ≤ k ∧ k < ld h2 b 4 := by omega
          obtain ⟨h3, a3, f3⟩ := kq_93 c2 hdp (d + 1)
          obtain ⟨c3, t3, s3⟩ := CK_fr c2 f3
          obtain ⟨w3, -, -, e3, hT3, -⟩ := id c3
          have tt3 : tC h3 b = tC h b := t3.trans tt2
          have ss3 : sV h3 s b = sV h1 s b := s3.trans s2
          have p3 : ld h3 b 11 = ld h b 11 := congrFun (congrFun tt3 2) 0
          have n3 : ld h3 b 4 = ld h b 4 := congrFun (congrFun tt3 1) 0
          have hdp3 : 0 ≤ due ∧ due < ld h3 b 11 := by omega
          have hks3 : 0 ≤ k ∧ k < ld h3 b 4 := by omega
          rw [tt2, s2] at a3
          rw [hq, if_neg (by decide), e110_51]
          rw [if_pos (sfF0 w2 hs), e2, if_pos (bfF0 w2 hb), bfP7 w2 hb, if_pos (bfF6 w2 hb), bfL6 w2 hb, if_pos ⟨hk, by omega⟩, if_pos (sfF0 w2 hs), Cl_eq _ a3, if_pos (sfF0 w3 hs), sfP7 w3 hs, if_pos (sfF2 w3 hs), sfL2 w3 hs, if_pos ⟨hdp.1, hd10⟩, Cl_eq _ (min245 (d + 5) _ _), e110_78, if_pos (sfF0 w3 hs), e3, if_pos (bfF0 w3 hb), bfP9 w3 hb, if_pos (bfF7 w3 hb), bfL7 w3 hb, if_pos ⟨hk, by omega⟩, e110_92, if_pos (sfF0 w3 hs), e3, if_pos (bfF0 w3 hb), tC_9 hks2, tt2, tC_10 hks3, tt3, sC_7 (ns := ld h3 b 4) hdp3, show sC h3 s (ld h3 b 4) (ld h3 b 11) = sV h1 s b from ss3, Cl_eq _ (kq_67 w3 hb (d + 5) _), tt3]
          simp only [bI_e0]
          generalize hamt : imin (tC h b 9 k) (w32 (sPrice (tC h b) (sV h1 s b) due - sV h1 s b 7 due)) = amt
          have tail : ∀ half : Int, (if qSit (tC h b) (tC h b 10 k) = true ∧ qLiv (sV h1 s b) (tC h b 10 k) = true then w32 (amt.tdiv 2) else 0) = half →
              ∃ h', V (d + 6) 110 121 [(2, 283), (2, s), (0, skip), (0, tot), (0, k), (0, due), (0, amt), (0, tC h b 10 k), (9, 0), (9, 0)] [(0, half)] h3 = some ((0, (fldP (payK (tC h b) skip) (n + 1) k (sV h1 s b, tot)).2), h') ∧ Md s b h1 h' (up1 (fldP (payK (tC h b) skip) (n + 1) k (sV h1 s b, tot)).1 1 (w32 ((fldP (payK (tC h b) skip) (n + 1) k (sV h1 s b, tot)).1 1 0 + (fldP (payK (tC h b) skip) (n + 1) k (sV h1 s b, tot)).2))) := by
            intro half hhalf
            obtain ⟨h4, a4, m4⟩ := kq_112 c3 (d + 4) 283 k (w32 (amt - half)) skip
            rw [tt3, ss3] at a4 m4
            have k4 : SOK (sTake (tC h b) (sV h1 s b) k (w32 (amt - half)) skip).1 := SOK_take k1 _ _ _
            obtain ⟨c4, t4, s4⟩ := CK_md c3 m4 k4
            have tt4 : tC h4 b = tC h b := t4.trans tt3
            obtain ⟨w4, -, -, e4, hT4, -⟩ := id c4
            obtain ⟨h5, a5, m5⟩ := kq_112 c4 (d + 4) 283 (tC h b 10 k) half skip
            rw [tt4, s4] at a5 m5
            have k5 : SOK (sTake (tC h b) (sTake (tC h b) (sV h1 s b) k (w32 (amt - half)) skip).1 (tC h b 10 k) half skip).1 := SOK_take k4 _ _ _
            obtain ⟨c5, t5, s5⟩ := CK_md c4 m5 k5
            obtain ⟨w5, -, -, e5, hT5, -⟩ := id c5
            have p5 : ld h5 b 11 = ld h b 11 := congrFun (congrFun (t5.trans tt4) 2) 0
            have hdp5 : 0 ≤ due ∧ due < ld h5 b 11 := by omega
            rw [e110_121, if_pos (F_a283 w3), Cl_eq _ a4, if_pos (F_a283 w4), Cl_eq _ a5, e110_149, if_pos (sfF0 w5 hs), sfP7 w5 hs, if_pos (sfF2 w5 hs), sfL2 w5 hs, if_pos ⟨hdp.1, hd10⟩, if_pos (sfW2 w5 hs), if_pos ⟨hdp.1, hd10⟩, e110_161, sC_7 (ns := ld h5 b 4) hdp5, show sC h5 s (ld h5 b 4) (ld h5 b 11) = _ from s5]
            have m6 := Md_u7 c5 hdp5 (w32 ((sTake (tC h b) (sTake (tC h b) (sV h1 s b) k (w32 (amt - half)) skip).1 (tC h b 10 k) half skip).1 7 due + w32 ((sTake (tC h b) (sV h1 s b) k (w32 (amt - half)) skip).2 + (sTake (tC h b) (sTake (tC h b) (sV h1 s b) k (w32 (amt - half)) skip).1 (tC h b 10 k) half skip).2)))
            rw [s5] at m6
            refine fin _ _ _ (Md_tr (Md_fr c1 f2) (Md_tr (Md_fr c2 f3) (Md_tr m4 (Md_tr m5 m6)))) (SOK_up2 k5 (w32_I _) (by decide)) ?_
            unfold payK dueOf
            dsimp only
            rw [hdue, if_pos hq]
            unfold payB payH
            dsimp only
            rw [hamt, hhalf]
            rfl
          by_cases q1 : qSit (tC h b) (tC h b 10 k) = true
          · rw [q1, if_neg (by decide), e110_104, if_pos (sfF0 w3 hs), Cl_eq _ (kq_87 w3 hs (d + 5) (ld h3 b 4) (ld h3 b 11) _), show sC h3 s (ld h3 b 4) (ld h3 b 11) = sV h1 s b from ss3]
            simp only [bI_e0]
            cases q2 : qLiv (sV h1 s b) (tC h b 10 k) with
            | true => rw [if_neg (by decide), if_neg (by decide)]; exact tail _ (if_pos ⟨q1, q2⟩)
            | false => rw [if_pos rfl, e110_120]; exact tail 0 (if_neg (fun z => by rw [q2] at z; exact absurd z.2 (by decide)))
          · rw [if_pos (Bool.eq_false_iff.mpr q1), e110_120]; exact tail 0 (if_neg (fun z => q1 z.1))
        · rw [if_pos (Bool.eq_false_iff.mpr hq)]
          refine fin tot h2 (sV h1 s b) (Md_fr c1 f2) k1 ?_
          unfold payK dueOf
          dsimp only
          rw [hdue, if_neg hq]
      cases hl : qLiv (sC h1 s (ld h1 b 4) (ld h1 b 11)) k with
      | false =>
        rw [if_pos rfl, e110_36]
        exact body (-1) h1 (FrS_rf w1) (if_neg (fun z => by rw [show qLiv (sV h1 s b) k = false from hl] at z; cases z))
      | true =>
        obtain ⟨h2, a2, f2⟩ := kq_111 c1 d 283 k
        rw [t1] at a2
        rw [if_neg (by decide), if_pos (F_a283 w1), Cl_eq _ a2]
        exact body _ h2 f2 (if_pos hl)
  rw [ce_110, e110_0]
  obtain ⟨h', a, m⟩ := key (ld h b 4).toNat 0 0 h c k0 rfl (by decide) (by omega)
  exact ⟨h', a, m⟩
end PN
