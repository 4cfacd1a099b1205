/-! layer 2: the class's methods: a text told, looks, laws, images -/
def zLook (s w : Int) (z : Zt) : Int := if qSit z.T s = false then 1099511627777 else if w = 0 then z.S 6 s else if w = 1 then bI (qLiv z.S s) else if w = 2 then sFace z.T z.S s else if w = 3 then sOwned z.T z.S s else if w = 4 then z.T 10 s else if w = 5 then z.T 11 s else 1099511627778
def zThr (s w : Int) (z : Zt) : Bool := !qSit z.T s || !decide (0 ≤ w ∧ w ≤ 5)
def zPiece (p w : Int) (z : Zt) : Int := if qPie z.T p = false then -1 else if w = 0 then z.T 12 p else if w = 1 then z.T 13 p else if w = 2 then z.T 14 p else if w = 3 then z.S 7 p else if w = 4 then z.S 8 p else if w = 5 then sPrice z.T z.S p else if w = 6 then sStand z.T z.S p else if w = 7 then z.S 9 p else -1
def zLaw (w p s : Int) (z : Zt) : Int := if w < 0 ∨ ¬ w < 3 ∨ qPie z.T p = false then MINV else
  if w = 2 ∧ qSit z.T s = false then MINV else (lwV z.T z.S w.toNat p (if w = 2 then s else z.T 12 p)).getD MINV
def zWho (z : Zt) : Int := fld (fun s a => if qFit (askf z.sk z.sa (zKn z).toNat (0, 0, 0)).2.1 (askf z.sk z.sa (zKn z).toNat (0, 0, 0)).2.2 (sFace z.T z.S s) = true then or32 a (shl32 1 s) else a) (z.T 1 0).toNat 0 0
def zKeep (z : Zt) : Int × Zt := (z.S 0 0, z.setIm (some z.S))
def zBack (z : Zt) : Int × Zt := match z.im with
  | none => (-1, z)
  | some I => (I 0 0, (z.setS I).setPast [])
def zCount (w : Int) (z : Zt) : Int := if w = 0 then z.T 0 0 else if w = 1 then z.T 1 0 else if w = 2 then z.T 2 0 else if w = 3 then z.T 3 0 else if w = 4 then tKnots z.T else if w = 5 then z.S 0 0 else if w = 6 then z.sz else if w = 7 then zKn z else if w = 8 then (z.past.length : Int) else if w = 9 then z.S 1 0 else if w = 10 then sPurses z.T z.S else if w = 11 then sDones z.T z.S else -1
section PC
variable {h : Hp} {z : Zt}
theorem cT (c : CR h z) (f : Nat) (i : Int) : tC h (ld h 1 3) f i = z.T f i := congrFun (congrFun c.T f) i
theorem cS (c : CR h z) (f : Nat) (i : Int) : sV h 97 (ld h 1 3) f i = z.S f i := congrFun (congrFun c.S f) i
theorem cTOK (c : CR h z) : TOK z.T := by rw [← c.T]; exact c.ck.2.2.2.2.1
theorem cB (c : CR h z) : ld h (ld h 1 3) 0 = z.T 0 0 ∧ ld h (ld h 1 3) 4 = z.T 1 0 ∧ ld h (ld h 1 3) 11 = z.T 2 0 ∧ ld h (ld h 1 3) 15 = z.T 3 0 := ⟨cT c 0 0, cT c 1 0, cT c 2 0, cT c 3 0⟩
theorem cS6 (c : CR h z) {i : Int} (hi : 0 ≤ i ∧ i < ld h (ld h 1 3) 4) : ld h (97 + 1) i = z.S 6 i := (sC_6 (np := ld h (ld h 1 3) 11) hi).trans (cS c 6 i)
theorem cS7 (c : CR h z) {i : Int} (hi : 0 ≤ i ∧ i < ld h (ld h 1 3) 11) : ld h (97 + 2) i = z.S 7 i := (sC_7 (ns := ld h (ld h 1 3) 4) hi).trans (cS c 7 i)
theorem cS8 (c : CR h z) {i : Int} (hi : 0 ≤ i ∧ i < ld h (ld h 1 3) 11) : ld h (97 + 3) i = z.S 8 i := (sC_8 (ns := ld h (ld h 1 3) 4) hi).trans (cS c 8 i)
theorem cS9 (c : CR h z) {i : Int} (hi : 0 ≤ i ∧ i < ld h (ld h 1 3) 11) : ld h (97 + 4) i = z.S 9 i := (sC_9 (ns := ld h (ld h 1 3) 4) hi).trans (cS c 9 i)
theorem qSit_r {T : Wd} {s : Int} (e : qSit T s = true) : 0 ≤ s ∧ s < T 1 0 := qSit_iff.mp e
theorem kq_8 (c : CR h z) (p x : Int) (d : Nat) : OPc h z (d + 8) 8 [(2, 1), (0, p), (0, x)] 0 (zPiece p x z) z := by
  have w := c.w
  have hb := c.hb
  obtain ⟨b0, b1, b2, b3⟩ := cB c
  have hT := cTOK c
  unfold zPiece
  have e0 : C (d + 8) 8 [(2, 1), (0, p), (0, x)] h = if bI (qPie z.T p) = 0 then some ((0, -1), h) else V (d + 8) 8 13 [(2, 1), (0, p), (0, x)] [] h := by
    rw [ce_8, e8_0, if_pos (F_a1 w), if_pos (c3 c), Cl_eq _ (kq_68 w hb (d + 7) p), c.T, e8_11]
  cases hq : qPie z.T p with
  | false => rw [if_pos rfl]; exact OPc_rf c (by rw [e0, hq, if_pos bI_f])
  | true =>
    rw [if_neg (by decide)]
    rw [hq, if_neg (by decide)] at e0
    have hp := qPie_iff.mp hq
    have t2 := hT.2.2.1
    have hpb : 0 ≤ p ∧ p < ld h (ld h 1 3) 11 := by rw [b2]; exact hp
    rw [e8_13] at e0
    by_cases q0 : x = 0
    · rw [if_pos q0] at e0 ⊢
      exact OPc_rf c (by rw [e0, e8_60, if_pos (F_a1 w), if_pos (c3 c), bfP12 w hb, if_pos (bfF9 w hb), bfL9 w hb, if_pos (by omega), tC_12 hpb, c.T])
    by_cases q1 : x = 1
    · rw [if_neg q0, if_pos q1] at e0 ⊢
      exact OPc_rf c (by rw [e0, e8_70, if_pos (F_a1 w), if_pos (c3 c), bfP13 w hb, if_pos (bfF10 w hb), bfL10 w hb, if_pos (by omega), tC_13 hpb, c.T])
    by_cases q2 : x = 2
    · rw [if_neg q0, if_neg q1, if_pos q2] at e0 ⊢
      exact OPc_rf c (by rw [e0, e8_80, if_pos (F_a1 w), if_pos (c3 c), bfP14 w hb, if_pos (bfF11 w hb), bfL11 w hb, if_pos (by omega), tC_14 hpb, c.T])
    by_cases q3 : x = 3
    · rw [if_neg q0, if_neg q1, if_neg q2, if_pos q3] at e0 ⊢
      exact OPc_rf c (by rw [e0, e8_90, if_pos (F_a1 w), P_1_5 w, if_pos (F_a97 w), sfP7 w c.ck.2.1, if_pos (sfF2 w c.ck.2.1), sfL2 w c.ck.2.1, if_pos (by omega), cS7 c hpb])
    by_cases q4 : x = 4
    · rw [if_neg q0, if_neg q1, if_neg q2, if_neg q3, if_pos q4] at e0 ⊢
      exact OPc_rf c (by rw [e0, e8_100, if_pos (F_a1 w), P_1_5 w, if_pos (F_a97 w), sfP8 w c.ck.2.1, if_pos (sfF3 w c.ck.2.1), sfL3 w c.ck.2.1, if_pos (by omega), cS8 c hpb])
    by_cases q5 : x = 5
    · rw [if_neg q0, if_neg q1, if_neg q2, if_neg q3, if_neg q4, if_pos q5] at e0 ⊢
      obtain ⟨h', a, f⟩ := kq_93 c.ck hpb (d + 3)
      rw [c.T, c.S] at a
      obtain ⟨c', f'⟩ := CR_FrS c f
      exact ⟨h', by rw [e0, e8_110, if_pos (F_a1 w), P_1_5 w, if_pos (F_a97 w), Cl_eq _ a], c', f'⟩
    by_cases q6 : x = 6
    · rw [if_neg q0, if_neg q1, if_neg q2, if_neg q3, if_neg q4, if_neg q5, if_pos q6] at e0 ⊢
      obtain ⟨h', a, f⟩ := kq_92 c.ck hpb (d + 1)
      rw [c.T, c.S] at a
      obtain ⟨c', f'⟩ := CR_FrS c f
      exact ⟨h', by rw [e0, e8_119, if_pos (F_a1 w), P_1_5 w, if_pos (F_a97 w), Cl_eq _ a], c', f'⟩
    by_cases q7 : x = 7
    · rw [if_neg q0, if_neg q1, if_neg q2, if_neg q3, if_neg q4, if_neg q5, if_neg q6, if_pos q7] at e0 ⊢
      exact OPc_rf c (by rw [e0, e8_128, if_pos (F_a1 w), P_1_5 w, if_pos (F_a97 w), sfP9 w c.ck.2.1, if_pos (sfF4 w c.ck.2.1), sfL4 w c.ck.2.1, if_pos (by omega), cS9 c hpb])
    · rw [if_neg q0, if_neg q1, if_neg q2, if_neg q3, if_neg q4, if_neg q5, if_neg q6, if_neg q7] at e0 ⊢
      exact OPc_rf c (by rw [e0, e8_138])
theorem kq_7 (c : CR h z) (s x : Int) (d : Nat) : C (d + 4) 7 [(2, 1), (0, s), (0, x)] h = some ((0, zLook s x z), if zThr s x z = true then thr h else h) := by
  have w := c.w
  have hb := c.hb
  obtain ⟨b0, b1, b2, b3⟩ := cB c
  have hT := cTOK c
  unfold zLook zThr
  have e0 : C (d + 4) 7 [(2, 1), (0, s), (0, x)] h = if bI (qSit z.T s) = 0 then some ((0, 1099511627777), thr h) else V (d + 4) 7 21 [(2, 1), (0, s), (0, x)] [] h := by
    rw [ce_7, e7_0, if_pos (F_a1 w), if_pos (c3 c), Cl_eq _ (kq_67 w hb (d + 3) s), c.T, e7_11]
  cases hq : qSit z.T s with
  | false => rw [e0, hq, if_pos bI_f, if_pos rfl]; rfl
  | true =>
    rw [if_neg (by decide)]
    rw [hq, if_neg (by decide)] at e0
    have hp := qSit_iff.mp hq
    have t2 := hT.2.1
    have hpb : 0 ≤ s ∧ s < ld h (ld h 1 3) 4 := by rw [b1]; exact hp
    rw [e7_21] at e0
    simp only [Bool.not_true, Bool.false_or, Bool.not_eq_true', decide_eq_false_iff_not]
    by_cases q0 : x = 0
    · rw [if_pos q0] at e0 ⊢
      rw [if_neg (by omega), e0, e7_60, if_pos (F_a1 w), P_1_5 w, if_pos (F_a97 w), sfP6 w c.ck.2.1, if_pos (sfF1 w c.ck.2.1), sfL1 w c.ck.2.1, if_pos (by omega), cS6 c hpb]
    by_cases q1 : x = 1
    · rw [if_neg q0, if_pos q1] at e0 ⊢
      rw [if_neg (by omega), e0, e7_70, if_pos (F_a1 w), P_1_5 w, if_pos (F_a97 w), Cl_eq _ (kq_87 w c.ck.2.1 (d + 3) (ld h (ld h 1 3) 4) (ld h (ld h 1 3) 11) s)]
      show (if bI (qLiv (sV h 97 (ld h 1 3)) s) = 0 then _ else _) = _
      rw [c.S]
      cases qLiv z.S s with
      | false => rw [if_pos bI_f, e7_85, e7_86]; rfl
      | true => rw [if_neg (by decide), e7_81, e7_86]; rfl
    by_cases q2 : x = 2
    · rw [if_neg q0, if_neg q1, if_pos q2] at e0 ⊢
      rw [if_neg (by omega), e0, e7_87, if_pos (F_a1 w), P_1_5 w, if_pos (F_a97 w), Cl_eq _ (kq_99 c.ck d s), c.T, c.S]
    by_cases q3 : x = 3
    · rw [if_neg q0, if_neg q1, if_neg q2, if_pos q3] at e0 ⊢
      rw [if_neg (by omega), e0, e7_96, if_pos (F_a1 w), P_1_5 w, if_pos (F_a97 w), Cl_eq _ (kq_97 w c.ck.2.1 hb c.ck.2.2.2.1 (by rw [c.T]; exact hT) (d + 3) s), c.T, c.S]
    by_cases q4 : x = 4
    · rw [if_neg q0, if_neg q1, if_neg q2, if_neg q3, if_pos q4] at e0 ⊢
      rw [if_neg (by omega), e0, e7_105, if_pos (F_a1 w), if_pos (c3 c), bfP9 w hb, if_pos (bfF7 w hb), bfL7 w hb, if_pos (by omega), tC_10 hpb, c.T]
    by_cases q5 : x = 5
    · rw [if_neg q0, if_neg q1, if_neg q2, if_neg q3, if_neg q4, if_pos q5] at e0 ⊢
      rw [if_neg (by omega), e0, e7_115, if_pos (F_a1 w), if_pos (c3 c), bfP10 w hb, if_pos (bfF8 w hb), bfL8 w hb, if_pos (by omega), tC_11 hpb, c.T]
    · rw [if_neg q0, if_neg q1, if_neg q2, if_neg q3, if_neg q4, if_neg q5] at e0 ⊢
      rw [if_pos (by omega), e0, e7_125]
theorem kq_9 (c : CR h z) (x p s : Int) (d : Nat) : OPc h z (d + 4) 9 [(2, 1), (0, x), (0, p), (0, s)] 1 (zLaw x p s z) z := by
  have w := c.w
  have hb := c.hb
  obtain ⟨b0, b1, b2, b3⟩ := cB c
  have hT := cTOK c
  have bad : V (d + 4) 9 20 [(9, 0), (9, 0), (9, 0), (9, 0)] [] h = some ((1, MINV), h) := by rw [e9_20]; rfl
  unfold zLaw
  by_cases q0 : x < 0
  · rw [if_pos (Or.inl q0)]; exact OPc_rf c (by rw [ce_9, e9_0, if_pos q0, bad])
  by_cases q1 : x < 3
  · have e0 : C (d + 4) 9 [(2, 1), (0, x), (0, p), (0, s)] h = if bI (qPie z.T p) = 0 then some ((1, MINV), h) else V (d + 4) 9 24 [(2, 1), (0, x), (0, p), (0, s)] [] h := by
      rw [ce_9, e9_0, if_neg q0, if_pos q1, e9_9, if_pos (F_a1 w), if_pos (c3 c), Cl_eq _ (kq_68 w hb (d + 3) p), c.T, bad]
    cases hq : qPie z.T p with
    | false => rw [if_pos (by simp)]; exact OPc_rf c (by rw [e0, hq, if_pos bI_f])
    | true =>
      rw [hq, if_neg (by decide)] at e0
      rw [if_neg (by simp; omega)]
      have hp := qPie_iff.mp hq
      have t2 := hT.2.2.1
      have hpb : 0 ≤ p ∧ p < ld h (ld h 1 3) 11 := by rw [b2]; exact hp
      have hs := (hT.2.2.2.2.1 p hp.1 hp.2).1
      have e12 : ld h (ld h 1 3 + 9) p = z.T 12 p := (tC_12 hpb).trans (cT c 12 p)
      have hx : ((x.toNat : Nat) : Int) = x := by omega
      have e48 : C (d + 4) 9 [(2, 1), (0, x), (0, p), (0, s)] h = Cl (d + 4) 96 [(2, 97), (0, x), (0, p), (0, if x = 2 then s else z.T 12 p)] 1 h (fun r1 h1 => some ((1, r1), h1)) := by
        rw [e0, e9_24, if_pos (F_a1 w), P_1_5 w]
        by_cases y : x = 2
        · rw [if_pos y, if_pos y, e9_48, if_pos (F_a97 w)]
        · rw [if_neg y, if_neg y, e9_39, if_pos (F_a1 w), if_pos (c3 c), bfP12 w hb, if_pos (bfF9 w hb), bfL9 w hb, if_pos (by omega), e12, e9_48, if_pos (F_a97 w)]
      by_cases y : x = 2 ∧ qSit z.T s = false
      · rw [if_pos y]
        refine OPc_rf c ?_
        have := kq_96n c.ck (p := p) (one := s) (k := x) (by
          rintro ⟨-, -, u⟩
          rw [b1] at u
          have := qSit_iff.mpr u
          rw [y.2] at this; cases this) (d + 2)
        rw [e48, if_pos y.1, Cl_eq _ this]
      · rw [if_neg y]
        have ho : 0 ≤ (if x = 2 then s else z.T 12 p) ∧ (if x = 2 then s else z.T 12 p) < ld h (ld h 1 3) 4 := by
          rw [b1]
          split
          · rename_i u
            cases v : qSit z.T s with
            | false => exact absurd ⟨u, v⟩ y
            | true => exact qSit_iff.mp v
          · exact hs
        obtain ⟨h', a, f⟩ := kq_96 c.ck hpb ho (k := x.toNat) (by omega) d
        rw [c.T, c.S, hx] at a
        obtain ⟨c', f'⟩ := CR_FrS c f
        exact ⟨h', by rw [e48, Cl_eq _ a], c', f'⟩
  · rw [if_pos (Or.inr (Or.inl q1))]; exact OPc_rf c (by rw [ce_9, e9_0, if_neg q0, if_neg q1, bad])
end PC
