/-! layer 2: the class's methods: what if, galleries, auctions, deaths, matches, forgers -/
def trN (T : Wd) (a b : Int) : Nat → Wd → Wd
  | 0, S => S
  | n + 1, S => if S 0 0 < 100 then trN T a b n (sDay T S a b) else S
def qTry (T : Wd) (a b : Int) : Bool := if a = 0 ∨ a = 3 ∨ a = 4 then decide (b = 0) else if a = 1 then qSit T b else if a = 2 then qFea T b else false
def zTried (a b n : Int) (z : Zt) : Int := if n < 0 ∨ 100 < n ∨ qTry z.T a b = false then -1 else sDones z.T (trN z.T a b n.toNat z.S)
def zGallery (n w : Int) (z : Zt) : Int := if n < 0 ∨ 100 < n ∨ w < 0 ∨ 2 < w then -1 else
  let B := (gBest z.T z.S n).getD (0, 0, 0)
  if w = 0 then B.2.1 else if w = 1 then B.2.2 else B.1
def qSell (z : Zt) (p : Int) : Bool := qPie z.T p && qSit z.T (z.S 9 p)
def zAuction (p w : Int) (z : Zt) : Int := if qSell z p = false ∨ w < 0 ∨ 2 < w then -1 else
  let A := sAuc z.T z.S p 0
  if w = 0 then A.1 else if w = 1 then A.2.1 else A.2.2
def sSell (T S : Wd) (p who pr : Int) : Wd :=
  let S1 := if qSit T (S 9 p) = true then up2 S 6 (S 9 p) (w32 (S 6 (S 9 p) + pr)) else S
  sOwn (up2 S1 6 who (w32 (S1 6 who - pr))) p who
def Zt.push (z : Zt) : Zt := z.setPast ((z.S :: z.past).take 20)
def zSell (p : Int) (z : Zt) : Int × Zt := if qSell z p = false then (-1, z) else
  let A := sAuc z.T z.S p 0
  if qSit z.T A.1 = false then (-2, z) else (A.2.1, z.push.setS (sSell z.T z.S p A.1 A.2.1))
def zDies (s : Int) (z : Zt) : Int × Zt := if qSit z.T s = false ∨ qLiv z.S s = false then (-1, z) else (sDieR z.T z.S s, z.push.setS (sDie z.T z.S s))
def zMatch (p : Int) (z : Zt) : Int := if qPie z.T p = false ∨ ¬ z.S 9 p = -2 then -1 else mtk z.T z.S (z.T 2 0).toNat 0 0 p
def adK (T S0 : Wd) (p : Int) (S : Wd) : Wd := if qSit T (mtk T S0 (T 2 0).toNat 0 0 p) = true then sOwn S p (mtk T S0 (T 2 0).toNat 0 0 p) else S
def zAdopt (z : Zt) : Int × Zt := if mst z.T z.S (z.T 2 0).toNat 0 0 = 0 then (0, z) else (mst z.T z.S (z.T 2 0).toNat 0 0, z.push.setS (fldS (adK z.T z.S) (z.T 2 0).toNat 0 z.S))
def sForge (T S : Wd) (p : Int) : Wd := sStroke T (up1 S 4 (or32 (S 4 0) (shl32 1 p))) p
def zForge (p : Int) (z : Zt) : Int × Zt := if qPie z.T p = false ∨ qOpen z.T z.S p = false then (-1, z) else (sForge z.T z.S p 8 p, z.push.setS (sForge z.T z.S p))
def zGive (s x : Int) (z : Zt) : Int × Zt := if qSit z.T s = false ∨ qLiv z.S s = false ∨ x < 1 ∨ 999 < x ∨ 9999 < w32 (z.S 6 s + x) then (-1, z) else (w32 (z.S 6 s + x), z.push.setS (up2 z.S 6 s (w32 (z.S 6 s + x))))
theorem auc_f (T S : Wd) (p f : Int) : sAuc T S p f = sAuc T S p 0 := rfl
section PF
variable {h h' : Hp} {z : Zt}
theorem q87 (c : CR h z) (i : Int) (d : Nat) : C d 87 [(2, 97), (0, i)] h = some ((0, bI (qLiv z.S i)), h) := by
  have := kq_87 c.w c.ck.2.1 d (ld h (ld h 1 3) 4) (ld h (ld h 1 3) 11) i
  rw [this]
  show some ((0, bI (qLiv (sV h 97 (ld h 1 3)) i)), h) = _
  rw [c.S]
theorem kq_13 (c : CR h z) (a b : Int) (d : Nat) : C (d + 1) 13 [(2, 1), (0, a), (0, b)] h = some ((0, bI (qTry z.T a b)), h) := by
  have w := c.w
  have e36 : V (d + 1) 13 36 [(2, 1), (0, a), (0, b)] [] h = some ((0, bI (decide (b = 0))), h) := by
    rw [e13_36]
    by_cases q : b = 0
    · rw [if_pos q, e13_45, if_pos (by decide), decide_eq_true q]; rfl
    · rw [if_neg q, e13_44, e13_45, if_pos (by decide), decide_eq_false q]; rfl
  unfold qTry
  rw [ce_13, e13_0]
  by_cases q0 : a = 0
  · rw [if_pos q0, if_pos (Or.inl q0)]; exact e36
  rw [if_neg q0]
  by_cases q1 : a = 1
  · rw [if_pos q1, if_neg (by omega), if_pos q1, e13_46, if_pos (F_a1 w), if_pos (c3 c), Cl_eq _ (kq_67 w c.hb d b), c.T, if_pos (bI_01 _)]
  rw [if_neg q1]
  by_cases q2 : a = 2
  · rw [if_pos q2, if_neg (by omega), if_neg q1, if_pos q2, e13_55, if_pos (F_a1 w), if_pos (c3 c), Cl_eq _ (kq_66 w c.hb d b), c.T, if_pos (bI_01 _)]
  rw [if_neg q2]
  by_cases q3 : a = 3
  · rw [if_pos q3, if_pos (Or.inr (Or.inl q3))]; exact e36
  rw [if_neg q3]
  by_cases q4 : a = 4
  · rw [if_pos q4, if_pos (Or.inr (Or.inr q4))]; exact e36
  rw [if_neg q4, if_neg (by omega), if_neg q1, if_neg q2, e13_64, if_pos (by decide)]; rfl
theorem try_loop (a b n : Int) (hn : n ≤ 100) (d : Nat) : ∀ (m : Nat) (h : Hp) (S : Wd) (x : Int), CR h z → CK h 105 (ld h 1 3) → sV h 105 (ld h 1 3) = S → SOK S → DOK S → 0 ≤ x → x + m = n → ∃ h', V (d + 8) 12 35 [(2, 1), (0, a), (0, b), (0, n), (0, x)] [] h = some ((0, sDones z.T (trN z.T a b m S)), h') ∧ CR h' z ∧ FrC h h' := by
  intro m
  induction m with
  | zero =>
    intro h S x c ck e ok dok x0 hx
    have w := c.w
    have := kq_106 ck (d + 4)
    rw [c.T, e] at this
    refine ⟨h, ?_, c, FrC_rf⟩
    rw [e12_35, if_neg (by omega), e12_72, if_pos (F_a1 w), P_1_6 w, if_pos (F_a105 w), Cl_eq _ this]
    rfl
  | succ m ih =>
    intro h S x c ck e ok dok x0 hx
    have w := c.w
    have ed : ld h 105 1 = S 0 0 := congrFun (congrFun e 0) 0
    unfold trN
    rw [e12_35, if_pos (by omega), if_pos (F_a1 w), P_1_6 w, if_pos (F_a105 w), ed]
    by_cases q : S 0 0 < 100
    · rw [if_pos q, if_pos q]
      obtain ⟨h1, a1, mm, -, -, -⟩ := kq_109 ck (by rw [e]; exact ok) d a b
      rw [c.T, e] at mm
      have ok1 : SOK (sDay z.T S a b) := SOK_day ok (cTOK c) _ _
      obtain ⟨ck1, t1, e1⟩ := CK_mx ck mm (by decide) ok1
      have c1 : CR h1 z := CR_scr c mm.1 (fun x j e1 e2 e3 _ _ => mm.2.2.1 x j e1 (by omega) e3)
      have e3 : ld h1 1 3 = ld h 1 3 := mm.2.2.1 1 3 (scr_if (by omega)) (by omega) (by omega)
      have f1 : FrC h h1 := ⟨mm.2.1, fun x j e => mm.2.2.1 x j (scr_311 e) (by omega) (by omega)⟩
      have e00 := sDay_0 z.T S a b
      unfold DOK at dok
      rw [show w32 (S 0 0 + 1) = S 0 0 + 1 by unfold w32; omega] at e00
      obtain ⟨h', ar, c', f⟩ := ih h1 (sDay z.T S a b) (x + 1) c1 (by rw [e3]; exact ck1) (by rw [e3]; exact e1) ok1 (by unfold DOK; omega) (by omega) (by omega)
      refine ⟨h', ?_, c', FrC_tr f1 f⟩
      rw [e12_53, if_pos (F_a1 w), if_pos (F_a1 w), P_1_10 w, if_pos (F_a283 w), P_1_6 w, Cl_eq _ a1, e12_66, show w32 (x + 1) = x + 1 by unfold w32; omega, ar]
    · rw [if_neg q, if_neg q]
      have := kq_106 ck (d + 4)
      rw [c.T, e] at this
      refine ⟨h, ?_, c, FrC_rf⟩
      rw [e12_72, if_pos (F_a1 w), P_1_6 w, if_pos (F_a105 w), Cl_eq _ this]
theorem kq_12 (c : CR h z) (a b n : Int) (d : Nat) : OPc h z (d + 8) 12 [(2, 1), (0, a), (0, b), (0, n)] 0 (zTried a b n z) z := by
  have w := c.w
  unfold zTried
  by_cases q0 : n < 0
  · rw [if_pos (Or.inl q0)]; exact OPc_rf c (by rw [ce_12, e12_0, if_pos q0, e12_19])
  by_cases q1 : 100 < n
  · rw [if_pos (Or.inr (Or.inl q1))]; exact OPc_rf c (by rw [ce_12, e12_0, if_neg q0, if_pos q1, e12_19])
  have e0 : C (d + 8) 12 [(2, 1), (0, a), (0, b), (0, n)] h = if bI (qTry z.T a b) = 0 then some ((0, -1), h) else V (d + 8) 12 21 [(2, 1), (0, a), (0, b), (0, n), (9, 0)] [] h := by
    rw [ce_12, e12_0, if_neg q0, if_neg q1, e12_10, if_pos (F_a1 w), Cl_eq _ (kq_13 c a b (d + 6)), e12_19]
  cases hq : qTry z.T a b with
  | false => rw [if_pos (Or.inr (Or.inr rfl))]; exact OPc_rf c (by rw [e0, hq, if_pos bI_f])
  | true =>
    rw [hq, if_neg (by decide)] at e0
    rw [if_neg (by rintro (u | u | u); · exact q0 u
                   · exact q1 u
                   · cases u)]
    obtain ⟨h1, a1, m⟩ := kq_86 (s := 105) c.ck (by rw [c.S]; exact c.ok) (by decide) (by decide) (d + 7)
    rw [c.S] at m
    have c1 : CR h1 z := CR_scr c m.1 (fun x j e1 e2 _ _ _ => m.2.2.1 x j e1 (by omega))
    have e3 : ld h1 1 3 = ld h 1 3 := m.2.2.1 1 3 (scr_if (by omega)) (by omega)
    have f1 : FrC h h1 := ⟨m.2.1, fun x j e => m.2.2.1 x j (scr_311 e) (by omega)⟩
    have ck1 : CK h1 105 (ld h 1 3) := by
      have eb := Md_B m (by decide) c.hb
      obtain ⟨-, c2, c3, c4, c5, c6, c7, c8⟩ := id c.ck
      exact ⟨m.1, by decide, c3, m.2.2.2.1, by rw [tC_eq eb]; exact c5, CB_eq eb c6, by rw [tC_eq eb]; exact c7, by rw [m.2.2.2.2]; exact c.ok.1⟩
    obtain ⟨h', ar, c', f⟩ := try_loop a b n (by omega) d n.toNat h1 z.S 0 c1 (by rw [e3]; exact ck1) (by rw [e3]; exact m.2.2.2.2) c.ok c.dok (by decide) (by omega)
    exact ⟨h', by rw [e0, e12_21, if_pos (F_a1 w), if_pos (F_a1 w), P_1_6 w, if_pos (F_a105 w), P_1_5 w, Cl_eq _ a1, e12_32, ar], c', FrC_tr f1 f⟩
theorem btr_smz {free : Int} : ∀ (l : List Cn) (o : Option Cn), (o.isSome = true ∨ ∃ x ∈ l, x.2.2 ≤ free) → (l.foldl (btr free) o).isSome = true
  | [], o, e => by
    rcases e with e | ⟨x, hx, -⟩
    · exact e
    · cases hx
  | y :: l, o, e => by
    refine btr_smz l (btr free o y) ?_
    unfold btr
    by_cases q : free < y.2.2
    · rw [if_pos q]
      rcases e with e | ⟨x, hx, hf⟩
      · exact Or.inl e
      · rcases List.mem_cons.mp hx with z | z
        · rw [z] at hf; omega
        · exact Or.inr ⟨x, z, hf⟩
    · rw [if_neg q]
      left
      cases o with
      | none => rfl
      | some B => dsimp only; split <;> rfl
theorem allS_A : ∀ (l : List Cn) (A : Cn), A ∈ allS l A
  | [], A => List.mem_singleton.mpr rfl
  | c :: l, A => List.mem_append.mpr (Or.inr (allS_A l A))
theorem gBest_smz (T S : Wd) (n : Int) : ∃ B, gBest T S n = some B := by
  have := btr_smz (free := gFree T S n) (allS (cands T S (T 2 0).toNat 0) (0, 0, 0)) none (Or.inr ⟨(0, 0, 0), allS_A _ _, gfr_0 _ _ _ (by decide)⟩)
  exact Option.isSome_iff_exists.mp this
theorem kq_14 (c : CR h z) (n x : Int) (d : Nat) : OPc h z (d + 8) 14 [(2, 1), (0, n), (0, x)] 0 (zGallery n x z) z := by
  have w := c.w
  unfold zGallery
  by_cases q0 : n < 0
  · rw [if_pos (Or.inl q0)]; exact OPc_rf c (by rw [ce_14, e14_0, if_pos q0, e14_19])
  by_cases q1 : 100 < n
  · rw [if_pos (Or.inr (Or.inl q1))]; exact OPc_rf c (by rw [ce_14, e14_0, if_neg q0, if_pos q1, e14_19])
  by_cases q2 : x < 0
  · rw [if_pos (Or.inr (Or.inr (Or.inl q2)))]; exact OPc_rf c (by rw [ce_14, e14_0, if_neg q0, if_neg q1, e14_10, if_pos q2, e14_19])
  by_cases q3 : 2 < x
  · rw [if_pos (Or.inr (Or.inr (Or.inr q3)))]; exact OPc_rf c (by rw [ce_14, e14_0, if_neg q0, if_neg q1, e14_10, if_neg q2, if_pos q3, e14_19])
  rw [if_neg (by omega)]
  obtain ⟨h1, a1, m, po⟩ := kq_116 c.ck (by rw [c.S]; exact c.ok) (by rw [c.S]; exact c.dok) (days := n) (d + 1)
  rw [c.S] at m
  rw [c.T, c.S] at po
  obtain ⟨B, hB⟩ := gBest_smz z.T z.S n
  rw [hB] at po
  obtain ⟨p3, p4, p5, -⟩ := po
  obtain ⟨c1, f1⟩ := CR_Mx c m (Or.inl ⟨rfl, rfl⟩) c.ok c.dok
  have w1 := c1.w
  refine ⟨h1, ?_, c1, f1⟩
  rw [ce_14, e14_0, if_neg q0, if_neg q1, e14_10, if_neg q2, if_neg q3, e14_21, if_pos (F_a1 w), if_pos (F_a1 w), P_1_10 w, if_pos (F_a283 w), P_1_5 w, Cl_eq _ a1, e14_33, hB]
  show _ = some ((0, if x = 0 then B.2.1 else if x = 1 then B.2.2 else B.1), h1)
  by_cases y0 : x = 0
  · rw [if_pos y0, if_pos y0, e14_60, if_pos (F_a1 w1), P_1_10 w1, if_pos (F_a283 w1), p3]
  · by_cases y1 : x = 1
    · rw [if_neg y0, if_pos y1, if_neg y0, if_pos y1, e14_68, if_pos (F_a1 w1), P_1_10 w1, if_pos (F_a283 w1), p4]
    · rw [if_neg y0, if_neg y1, if_neg y0, if_neg y1, e14_76, if_pos (F_a1 w1), P_1_10 w1, if_pos (F_a283 w1), p5]
theorem kq_17 (c : CR h z) (p : Int) (d : Nat) : C (d + 1) 17 [(2, 1), (0, p)] h = some ((0, bI (qSell z p)), h) := by
  have w := c.w
  obtain ⟨b0, b1, b2, b3⟩ := cB c
  have t2 := (cTOK c).2.2.1
  unfold qSell
  rw [ce_17, e17_0, if_pos (F_a1 w), if_pos (c3 c), Cl_eq _ (kq_68 w c.hb d p), c.T]
  cases hq : qPie z.T p with
  | false => rw [if_pos bI_f, e17_34, e17_35, if_pos (by decide)]; rfl
  | true =>
    have hp := qPie_iff.mp hq
    have hpb : 0 ≤ p ∧ p < ld h (ld h 1 3) 11 := by rw [b2]; exact hp
    rw [if_neg (by decide), e17_11, if_pos (F_a1 w), if_pos (F_a1 w), P_1_5 w, if_pos (F_a97 w), sfP9 w c.ck.2.1, if_pos (sfF4 w c.ck.2.1), sfL4 w c.ck.2.1, if_pos (by omega), if_pos (c3 c), cS9 c hpb, Cl_eq _ (kq_67 w c.hb d _), c.T]
    cases qSit z.T (z.S 9 p) with
    | false => rw [if_pos bI_f, e17_34, e17_35, if_pos (by decide)]; rfl
    | true => rw [if_neg (by decide), e17_30, e17_35, if_pos (by decide)]; rfl
theorem qSell_p {p : Int} (e : qSell z p = true) : (0 ≤ p ∧ p < z.T 2 0) ∧ qSit z.T (z.S 9 p) = true := by
  unfold qSell at e
  rw [Bool.and_eq_true] at e
  exact ⟨qPie_iff.mp e.1, e.2⟩
theorem kq_15 (c : CR h z) (p x : Int) (d : Nat) : OPc h z (d + 8) 15 [(2, 1), (0, p), (0, x)] 0 (zAuction p x z) z := by
  have w := c.w
  obtain ⟨b0, b1, b2, b3⟩ := cB c
  unfold zAuction
  have e0 : C (d + 8) 15 [(2, 1), (0, p), (0, x)] h = if bI (qSell z p) = 0 then some ((0, -1), h) else if x < 0 then some ((0, -1), h) else if 2 < x then some ((0, -1), h) else V (d + 8) 15 19 [(2, 1), (0, p), (0, x)] [] h := by
    rw [ce_15, e15_0, if_pos (F_a1 w), Cl_eq _ (kq_17 c p (d + 6)), e15_17, e15_12, e15_17]
  cases hq : qSell z p with
  | false => rw [if_pos (Or.inl rfl)]; exact OPc_rf c (by rw [e0, hq, if_pos bI_f])
  | true =>
    rw [hq, if_neg (by decide)] at e0
    by_cases q2 : x < 0
    · rw [if_pos (Or.inr (Or.inl q2))]; exact OPc_rf c (by rw [e0, if_pos q2])
    by_cases q3 : 2 < x
    · rw [if_pos (Or.inr (Or.inr q3))]; exact OPc_rf c (by rw [e0, if_neg q2, if_pos q3])
    rw [if_neg (by rintro (u | u | u); · cases u
                   · exact q2 u
                   · exact q3 u)]
    have hp := (qSell_p hq).1
    obtain ⟨h1, a1, m, g1, g2, g3⟩ := kq_119 c.ck (by rw [c.S]; exact c.ok) (p := p) (by rw [b2]; exact hp) (d + 2)
    rw [c.T, c.S, auc_f] at g1 g2 g3
    rw [c.S] at m
    obtain ⟨c1, f1⟩ := CR_Mx c m (Or.inr (Or.inl ⟨rfl, rfl⟩)) c.ok c.dok
    have w1 := c1.w
    refine ⟨h1, ?_, c1, f1⟩
    rw [e0, if_neg q2, if_neg q3, e15_19, if_pos (F_a1 w), if_pos (F_a1 w), P_1_12 w, if_pos (F_a291 w), P_1_5 w, Cl_eq _ a1, e15_31]
    show _ = some ((0, if x = 0 then (sAuc z.T z.S p 0).1 else if x = 1 then (sAuc z.T z.S p 0).2.1 else (sAuc z.T z.S p 0).2.2), h1)
    by_cases y0 : x = 0
    · rw [if_pos y0, if_pos y0, e15_60, if_pos (F_a1 w1), P_1_12 w1, if_pos (F_a291 w1), g1]
    · by_cases y1 : x = 1
      · rw [if_neg y0, if_pos y1, if_neg y0, if_pos y1, e15_68, if_pos (F_a1 w1), P_1_12 w1, if_pos (F_a291 w1), g2]
      · rw [if_neg y0, if_neg y1, if_neg y0, if_neg y1, e15_76, if_pos (F_a1 w1), P_1_12 w1, if_pos (F_a291 w1), g3]
theorem kq_18 (c : CR h z) (s : Int) (d : Nat) : OPc h z (d + 4) 18 [(2, 1), (0, s)] 0 (zDies s z).1 (zDies s z).2 := by
  have w := c.w
  unfold zDies
  have e0 : C (d + 4) 18 [(2, 1), (0, s)] h = if bI (qSit z.T s) = 0 then some ((0, -1), h) else if bI (qLiv z.S s) = 0 then some ((0, -1), h) else V (d + 4) 18 24 [(2, 1), (0, s)] [] h := by
    rw [ce_18, e18_0, if_pos (F_a1 w), if_pos (c3 c), Cl_eq _ (kq_67 w c.hb (d + 3) s), c.T, e18_22, e18_11, if_pos (F_a1 w), P_1_5 w, if_pos (F_a97 w), Cl_eq _ (q87 c s (d + 3)), e18_22]
  cases hq : qSit z.T s with
  | false => rw [if_pos (Or.inl rfl)]; exact OPc_rf c (by rw [e0, hq, if_pos bI_f])
  | true =>
    rw [hq, if_neg (by decide)] at e0
    cases hl : qLiv z.S s with
    | false => rw [if_pos (Or.inr rfl)]; exact OPc_rf c (by rw [e0, hl, if_pos bI_f])
    | true =>
      rw [hl, if_neg (by decide)] at e0
      rw [if_neg (by rintro (u | u) <;> cases u)]
      obtain ⟨h1, a1, c1, f1, e31, -⟩ := CR_push c (d + 2)
      have w1 := c1.w
      have hs := qSit_iff.mp hq
      obtain ⟨h2, a2, m⟩ := kq_104 c1.ck (by rw [c1.S]; exact c1.ok) (x := s) (by rw [(cB c1).2.1]; exact hs) (d + 1)
      rw [c1.T, c1.S] at a2 m
      obtain ⟨c2, f2⟩ := CR_Md c1 m (SOK_die c.ok (cTOK c) s) (by unfold DOK; rw [sDie_0]; exact c.dok)
      exact ⟨h2, by rw [e0, e18_24, if_pos (F_a1 w), if_pos (F_a1 w), P_1_9 w, if_pos (F_a121 w), P_1_5 w, Cl_eq _ a1, e18_35, if_pos (F_a1 w1), P_1_5 w1, if_pos (F_a97 w1), Cl_eq _ a2], c2, FrC_tr f1 f2⟩
theorem kq_19 (c : CR h z) (p : Int) (d : Nat) : OPc h z (d + 4) 19 [(2, 1), (0, p)] 0 (zMatch p z) z := by
  have w := c.w
  obtain ⟨b0, b1, b2, b3⟩ := cB c
  have t2 := (cTOK c).2.2.1
  unfold zMatch
  have e0 : C (d + 4) 19 [(2, 1), (0, p)] h = if bI (qPie z.T p) = 0 then some ((0, -1), h) else V (d + 4) 19 11 [(2, 1), (0, p)] [] h := by
    rw [ce_19, e19_0, if_pos (F_a1 w), if_pos (c3 c), Cl_eq _ (kq_68 w c.hb (d + 3) p), c.T, e19_25]
  cases hq : qPie z.T p with
  | false => rw [if_pos (Or.inl rfl)]; exact OPc_rf c (by rw [e0, hq, if_pos bI_f])
  | true =>
    rw [hq, if_neg (by decide)] at e0
    have hp := qPie_iff.mp hq
    have hpb : 0 ≤ p ∧ p < ld h (ld h 1 3) 11 := by rw [b2]; exact hp
    rw [e19_11, if_pos (F_a1 w), P_1_5 w, if_pos (F_a97 w), sfP9 w c.ck.2.1, if_pos (sfF4 w c.ck.2.1), sfL4 w c.ck.2.1, if_pos (by omega), cS9 c hpb] at e0
    by_cases q : z.S 9 p = -2
    · rw [if_neg (by rintro (u | u); · cases u
                     · exact u q)]
      obtain ⟨h1, a1, m, g1, g2⟩ := kq_121 c.ck (by rw [c.S]; exact c.ok) (d + 1)
      rw [c.T, c.S, b2] at g1 g2
      rw [c.S] at m
      obtain ⟨c1, f1⟩ := CR_Mx c m (Or.inr (Or.inr ⟨rfl, rfl⟩)) c.ok c.dok
      have w1 := c1.w
      refine ⟨h1, ?_, c1, f1⟩
      rw [e0, if_pos q, e19_27, if_pos (F_a1 w), if_pos (F_a1 w), P_1_13 w, if_pos (F_a293 w), P_1_5 w, Cl_eq _ a1, e19_38, if_pos (F_a1 w1), P_1_13 w1, if_pos (F_a293 w1), P_293_2 w1, if_pos (F_a307 w1), L_a307 w1, if_pos (by omega), g2 p hp.1 hp.2]
    · rw [if_pos (Or.inr q)]
      exact OPc_rf c (by rw [e0, if_neg q, e19_25])
theorem kq_22 (c : CR h z) (s x : Int) (d : Nat) : OPc h z (d + 4) 22 [(2, 1), (0, s), (0, x)] 0 (zGive s x z).1 (zGive s x z).2 := by
  have w := c.w
  obtain ⟨b0, b1, b2, b3⟩ := cB c
  have t1 := (cTOK c).2.1
  unfold zGive
  have e0 : C (d + 4) 22 [(2, 1), (0, s), (0, x)] h = if bI (qSit z.T s) = 0 then some ((0, -1), h) else if bI (qLiv z.S s) = 0 then some ((0, -1), h) else if x < 1 then some ((0, -1), h) else if 999 < x then some ((0, -1), h) else V (d + 4) 22 36 [(2, 1), (0, s), (0, x)] [] h := by
    rw [ce_22, e22_0, if_pos (F_a1 w), if_pos (c3 c), Cl_eq _ (kq_67 w c.hb (d + 3) s), c.T, e22_34, e22_11, if_pos (F_a1 w), P_1_5 w, if_pos (F_a97 w), Cl_eq _ (q87 c s (d + 3)), e22_34, e22_22, e22_34]
  cases hq : qSit z.T s with
  | false => rw [if_pos (Or.inl rfl)]; exact OPc_rf c (by rw [e0, hq, if_pos bI_f])
  | true =>
    rw [hq, if_neg (by decide)] at e0
    cases hl : qLiv z.S s with
    | false => rw [if_pos (Or.inr (Or.inl rfl))]; exact OPc_rf c (by rw [e0, hl, if_pos bI_f])
    | true =>
      rw [hl, if_neg (by decide)] at e0
      by_cases q1 : x < 1
      · rw [if_pos (Or.inr (Or.inr (Or.inl q1)))]; exact OPc_rf c (by rw [e0, if_pos q1])
      by_cases q2 : 999 < x
      · rw [if_pos (Or.inr (Or.inr (Or.inr (Or.inl q2))))]; exact OPc_rf c (by rw [e0, if_neg q1, if_pos q2])
      have hs := qSit_iff.mp hq
      have hsb : 0 ≤ s ∧ s < ld h (ld h 1 3) 4 := by rw [b1]; exact hs
      rw [if_neg q1, if_neg q2, e22_36, if_pos (F_a1 w), P_1_5 w, if_pos (F_a97 w), sfP6 w c.ck.2.1, if_pos (sfF1 w c.ck.2.1), sfL1 w c.ck.2.1, if_pos (by omega), cS6 c hsb] at e0
      by_cases q3 : 9999 < w32 (z.S 6 s + x)
      · rw [if_pos (Or.inr (Or.inr (Or.inr (Or.inr q3))))]; exact OPc_rf c (by rw [e0, if_pos q3, e22_53])
      rw [if_neg (by rintro (u | u | u | u | u); · cases u
                     · cases u
                     · exact q1 u
                     · exact q2 u
                     · exact q3 u)]
      obtain ⟨h1, a1, c1, f1, e31, -⟩ := CR_push c (d + 2)
      have w1 := c1.w
      have hs1 : 0 ≤ s ∧ s < ld h1 (ld h1 1 3) 4 := by rw [(cB c1).2.1]; exact hs
      have m := Md_u6 c1.ck hs1 (w32 (z.S 6 s + x))
      rw [c1.S] at m
      obtain ⟨c2, f2⟩ := CR_Md c1 m (SOK_up2 c.ok (w32_I _) (by decide)) c.dok
      have w2 := c2.w
      refine ⟨_, ?_, c2, FrC_tr f1 f2⟩
      have s6 : ld h1 (97 + 1) s = z.S 6 s := cS6 c1 hs1
      rw [e0, if_neg q3, e22_55, if_pos (F_a1 w), if_pos (F_a1 w), P_1_9 w, if_pos (F_a121 w), P_1_5 w, Cl_eq _ a1, e22_66, if_pos (F_a1 w1), P_1_5 w1, if_pos (F_a97 w1), sfP6 w1 c.ck.2.1, if_pos (sfF1 w1 c.ck.2.1), sfL1 w1 c.ck.2.1, if_pos (by omega), if_pos (sfW1 w1 c.ck.2.1), if_pos (by omega), s6, e22_79, if_pos (F_a1 w2), P_1_5 w2, if_pos (F_a97 w2), sfP6 w2 c.ck.2.1, if_pos (sfF1 w2 c.ck.2.1), sfL1 w2 c.ck.2.1, if_pos (by omega), ld_st_eq]
theorem kq_21 (c : CR h z) (p : Int) (d : Nat) : OPc h z (d + 4) 21 [(2, 1), (0, p)] 0 (zForge p z).1 (zForge p z).2 := by
  have w := c.w
  obtain ⟨b0, b1, b2, b3⟩ := cB c
  have t2 := (cTOK c).2.2.1
  unfold zForge
  have e0 : C (d + 4) 21 [(2, 1), (0, p)] h = if bI (qPie z.T p) = 0 then some ((0, -1), h) else V (d + 4) 21 11 [(2, 1), (0, p)] [] h := by
    rw [ce_21, e21_0, if_pos (F_a1 w), if_pos (c3 c), Cl_eq _ (kq_68 w c.hb (d + 3) p), c.T, e21_22]
  cases hq : qPie z.T p with
  | false => rw [if_pos (Or.inl rfl)]; exact OPc_rf c (by rw [e0, hq, if_pos bI_f])
  | true =>
    have hp := qPie_iff.mp hq
    have hpb : 0 ≤ p ∧ p < ld h (ld h 1 3) 11 := by rw [b2]; exact hp
    have a91 := kq_91 c.ck hpb d
    rw [c.T, c.S] at a91
    rw [hq, if_neg (by decide), e21_11, if_pos (F_a1 w), P_1_5 w, if_pos (F_a97 w), Cl_eq _ a91, e21_22] at e0
    cases ho : qOpen z.T z.S p with
    | false => rw [if_pos (Or.inr rfl)]; exact OPc_rf c (by rw [e0, ho, if_pos bI_f])
    | true =>
      rw [ho, if_neg (by decide)] at e0
      rw [if_neg (by rintro (u | u) <;> cases u)]
      obtain ⟨h1, a1, c1, f1, e31, -⟩ := CR_push c (d + 2)
      have w1 := c1.w
      have m := Md_u4 c1.ck (or32 (z.S 4 0) (shl32 1 p))
      rw [c1.S] at m
      have ok2 : SOK (up1 z.S 4 (or32 (z.S 4 0) (shl32 1 p))) := SOK_up1 c.ok (or32_I _ _) (by decide)
      obtain ⟨c2, f2⟩ := CR_Md c1 m ok2 c.dok
      have w2 := c2.w
      have hp2 := (cB c2).2.2.1
      obtain ⟨h3, a3, m3⟩ := kq_101 c2.ck (by rw [c2.S]; exact ok2) (p := p) (by rw [hp2]; exact hp) d
      rw [c2.T, c2.S] at m3
      obtain ⟨c3', f3⟩ := CR_Md c2 m3 (SOK_stroke ok2 (cTOK c) hp) (by unfold DOK; rw [sStroke_0]; exact c.dok)
      have w3 := c3'.w
      have e8 := cS8 c3' (i := p) (by rw [(cB c3').2.2.1]; exact hp)
      refine ⟨h3, ?_, c3', FrC_tr f1 (FrC_tr f2 f3)⟩
      have s4 : ld h1 97 5 = z.S 4 0 := cS c1 4 0
      rw [e0, e21_24, if_pos (F_a1 w), if_pos (F_a1 w), P_1_9 w, if_pos (F_a121 w), P_1_5 w, Cl_eq _ a1, e21_35, if_pos (F_a1 w1), P_1_5 w1, if_pos (F_a97 w1), if_pos (W_a97 w1), s4, e21_50, if_pos (F_a1 w2), P_1_5 w2, if_pos (F_a97 w2), Cl_eq _ a3, if_pos (F_a1 w3), P_1_5 w3, if_pos (F_a97 w3), sfP8 w3 c.ck.2.1, if_pos (sfF3 w3 c.ck.2.1), sfL3 w3 c.ck.2.1, if_pos (by omega), e8]
      rfl
end PF
