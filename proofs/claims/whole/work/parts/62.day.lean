/-! layer 2: choice, lapse and the day -/
def sCan (T S : Wd) (p what who : Int) : Bool := qOpen T S p && (!(decide (what = 2) && decide (T 13 p = who)) && (decide (what = 4) || qPaid T S p))
def cho (T S : Wd) (what who : Int) : Nat → Int → Int → Int → Int
  | 0, _, a, _ => a
  | n + 1, k, a, v => if sCan T S k what who = true then (if what = 3 then k else if v < sPick T S k then cho T S what who n (k + 1) k (sPick T S k) else cho T S what who n (k + 1) a v) else cho T S what who n (k + 1) a v
def sChoose (T S : Wd) (what who : Int) : Int := cho T S what who (T 2 0).toNat 0 (-1) 0
theorem cho_rng {T S : Wd} {what who : Int} : ∀ (n : Nat) (k a v : Int), (a = -1 ∨ (0 ≤ a ∧ a < k + n)) → 0 ≤ k → cho T S what who n k a v = -1 ∨ (0 ≤ cho T S what who n k a v ∧ cho T S what who n k a v < k + n)
  | 0, k, a, v, h, _ => by unfold cho; exact h
  | n + 1, k, a, v, h, h0 => by
    have c1 := fun a' v' ha => cho_rng (T := T) (S := S) (what := what) (who := who) n (k + 1) a' v' ha (by omega)
    unfold cho
    split
    · split
      · right; omega
      · split
        · rcases c1 k (sPick T S k) (by omega) with q | q
          · exact Or.inl q
          · right; omega
        · rcases c1 a v (by omega) with q | q
          · exact Or.inl q
          · right; omega
    · rcases c1 a v (by omega) with q | q
      · exact Or.inl q
      · right; omega
section DY
variable {h : Hp} {s b : Int}
theorem kq_114 (c : CK h s b) (d : Nat) (y : Int) {p : Int} (hp : 0 ≤ p ∧ p < ld h b 11) (what who : Int) : ∃ h', C (d + 5) 114 [(2, y), (2, s), (0, p), (0, what), (0, who)] h = some ((0, bI (sCan (tC h b) (sV h s b) p what who)), h') ∧ FrS h h' := by
  obtain ⟨w, hs, hb, e, hT, -⟩ := id c
  obtain ⟨⟨q1, q2⟩, -⟩ := pie_b hT hp
  obtain ⟨h2, a2, f2⟩ := kq_93 c hp d
  rw [ce_114, e114_0]
  simp only [sfF0 w hs, sfW0 w hs, sfF1 w hs, sfW1 w hs, sfL1 w hs, sfF2 w hs, sfW2 w hs, sfL2 w hs, sfF3 w hs, sfW3 w hs, sfL3 w hs, sfF4 w hs, sfW4 w hs, sfL4 w hs, sfF5 w hs, sfW5 w hs, sfL5 w hs, sfF6 w hs, sfW6 w hs, sfL6 w hs, sfF7 w hs, sfW7 w hs, sfL7 w hs, sfP6 w hs, sfP7 w hs, sfP8 w hs, sfP9 w hs, sfP11 w hs, sfP12 w hs, sfP13 w hs, e, bfF0 w hb, bfW0 w hb, bfF1 w hb, bfW1 w hb, bfL1 w hb, bfF2 w hb, bfW2 w hb, bfL2 w hb, bfF3 w hb, bfW3 w hb, bfL3 w hb, bfF4 w hb, bfW4 w hb, bfL4 w hb, bfF5 w hb, bfW5 w hb, bfL5 w hb, bfF6 w hb, bfW6 w hb, bfL6 w hb, bfF7 w hb, bfW7 w hb, bfL7 w hb, bfF8 w hb, bfW8 w hb, bfL8 w hb, bfF9 w hb, bfW9 w hb, bfL9 w hb, bfF10 w hb, bfW10 w hb, bfL10 w hb, bfF11 w hb, bfW11 w hb, bfL11 w hb, bfF12 w hb, bfW12 w hb, bfL12 w hb, bfF13 w hb, bfW13 w hb, bfL13 w hb, bfF14 w hb, bfW14 w hb, bfL14 w hb, bfF15 w hb, bfW15 w hb, bfL15 w hb, bfF16 w hb, bfW16 w hb, bfL16 w hb, bfF17 w hb, bfW17 w hb, bfL17 w hb, bfP1 w hb, bfP2 w hb, bfP3 w hb, bfP5 w hb, bfP6 w hb, bfP7 w hb, bfP9 w hb, bfP10 w hb, bfP12 w hb, bfP13 w hb, bfP14 w hb, bfP16 w hb, bfP18 w hb, bfP19 w hb, if_true, Cl_eq _ (kq_91 c hp (d + 1)), bI_e0, e114_27, e114_13, e114_29, q1, q2, and_self, tC_13 hp, Cl_eq _ a2, e114_48, e114_52, e114_53, true_or, or_true, sC_7 (ns := ld h b 4) hp, qPaid_b]
  unfold sCan
  cases qOpen (tC h b) (sV h s b) p with
  | false => exact ⟨h, by simp [bI], FrS_rf w⟩
  | true =>
    by_cases w2 : what = 2
    · by_cases w3 : tC h b 13 p = who
      · exact ⟨h, by simp [w2, w3, bI], FrS_rf w⟩
      · refine ⟨h2, ?_, f2⟩
        cases qPaid (tC h b) (sV h s b) p <;> simp [w2, w3, bI]
    · by_cases w4 : what = 4
      · exact ⟨h, by simp [w4, bI], FrS_rf w⟩
      · refine ⟨h2, ?_, f2⟩
        cases qPaid (tC h b) (sV h s b) p <;> simp [w2, w4, bI]
theorem kq_113 (c : CK h s b) (d : Nat) (what who : Int) : ∃ h', C (d + 6) 113 [(2, 283), (2, s), (0, what), (0, who)] h = some ((0, sChoose (tC h b) (sV h s b) what who), h') ∧ FrS h h' := by
  obtain ⟨w, hs, hb, e, hT, -⟩ := id c
  have hN : 0 ≤ ld h b 11 ∧ ld h b 11 ≤ 10 := hT.2.2.1
  have key : ∀ (n : Nat) (k a v : Int) (h1 : Hp), FrS h h1 → 0 ≤ k → k + n = ld h b 11 → ∃ h', V (d + 6) 113 9 [(2, 283), (2, s), (0, what), (0, who), (0, a), (1, v), (9, 0), (0, k), (9, 0), (9, 0)] [] h1 = some ((0, cho (tC h b) (sV h s b) what who n k a v), h') ∧ FrS h h' := by
    intro n
    induction n with
    | zero =>
      intro k a v h1 f1 hk hn
      obtain ⟨c1, t1, s1⟩ := CK_fr c f1
      obtain ⟨w1, -, -, e1, -⟩ := id c1
      have p1 : ld h1 b 11 = ld h b 11 := congrFun (congrFun t1 2) 0
      exact ⟨h1, by rw [e113_9, if_pos (sfF0 w1 hs), e1, if_pos (bfF0 w1 hb), if_neg (by omega), e113_74]; rfl, f1⟩
    | succ n ih =>
      intro k a v h1 f1 hk hn
      obtain ⟨c1, t1, s1⟩ := CK_fr c f1
      obtain ⟨w1, -, -, e1, -⟩ := id c1
      have p1 : ld h1 b 11 = ld h b 11 := congrFun (congrFun t1 2) 0
      have hkp : 0 ≤ k ∧ k < ld h1 b 11 := by omega
      obtain ⟨h2, a2, f2⟩ := kq_114 c1 d 283 hkp what who
      rw [t1, s1] at a2
      obtain ⟨c2, t2, s2⟩ := CK_fr c1 f2
      obtain ⟨w2, -, -, e2, -⟩ := id c2
      have p2 : ld h2 b 11 = ld h1 b 11 := congrFun (congrFun t2 2) 0
      obtain ⟨h3, a3, f3⟩ := kq_94 c2 (show 0 ≤ k ∧ k < ld h2 b 11 by omega) (d + 1)
      rw [t2, s2, t1, s1] at a3
      have wk1 := wk hk (show k < ld h b 11 by omega) (by omega)
      rw [e113_9, if_pos (sfF0 w1 hs), e1, if_pos (bfF0 w1 hb), if_pos hkp.2, e113_21, if_pos (F_a283 w1), Cl_eq _ a2]
      simp only [bI_e0]
      unfold cho
      cases hc : sCan (tC h b) (sV h s b) k what who with
      | false =>
        rw [if_pos rfl, e113_33, e113_68, wk1, if_neg (by decide)]
        exact ih (k + 1) a v h2 (FrS_tr f1 f2) (by omega) (by omega)
      | true =>
        rw [if_neg (by decide), if_pos rfl, e113_36]
        by_cases w3 : what = 3
        · rw [if_pos w3, if_pos w3]; exact ⟨h2, rfl, FrS_tr f1 f2⟩
        · rw [if_neg w3, if_neg w3, e113_44, if_pos (sfF0 w2 hs), Cl_eq _ a3]
          simp only [lcm_g]
          by_cases q : v < sPick (tC h b) (sV h s b) k
          · rw [if_pos q, if_pos q, e113_60, e113_68, wk1]
            exact ih (k + 1) k _ h3 (FrS_tr f1 (FrS_tr f2 f3)) (by omega) (by omega)
          · rw [if_neg q, if_neg q, e113_68, wk1]
            exact ih (k + 1) a v h3 (FrS_tr f1 (FrS_tr f2 f3)) (by omega) (by omega)
  rw [ce_113, e113_0]
  exact key (ld h b 11).toNat 0 (-1) 0 h (FrS_rf w) (by decide) (by omega)
end DY
def lapK (T : Wd) (k : Int) (A : Wd × Int) : Wd × Int :=
  if T 14 k = A.1 0 0 ∧ qDone T A.1 k = false ∧ qPaid T A.1 k = false then
    (up2 (up1 (up1 A.1 3 (or32 (A.1 3 0) (shl32 1 k))) 4 (and32 (A.1 4 0) (xor32 (shl32 1 k) (-1)))) 8 k 0, w32 (A.2 + 1))
  else A
def sLapse (T S : Wd) : Wd × Int := fldP (lapK T) (T 2 0).toNat 0 (S, 0)
theorem and32_I (x y : Int) : I32 (and32 x y) := by
  unfold and32 I32
  have h1 := Int32.le_toInt (Int32.ofInt x &&& Int32.ofInt y)
  have h2 := Int32.toInt_lt (Int32.ofInt x &&& Int32.ofInt y)
  omega
theorem SOK_lapK {T : Wd} {k : Int} {A : Wd × Int} (kk : SOK A.1) : SOK (lapK T k A).1 := by
  unfold lapK
  split
  · exact SOK_up2 (f := 8) (SOK_up1 (f := 4) (SOK_up1 (f := 3) kk (or32_I _ _) (by decide)) (and32_I _ _) (by decide)) (I32_of (by decide)) (by decide)
  · exact kk
theorem SOK_lapse {T S : Wd} (kk : SOK S) : SOK (sLapse T S).1 := SOK_fldP (fun _ _ h => SOK_lapK h) _ _ _ kk
/-- a day; the three that the painter keeps: paid, piece, lapsed -/
def dayPay (T S : Wd) (what who : Int) : Wd × Int := if what = 4 then (S, 0) else sPay T S (if what = 1 then who else -1)
def dayCh (T S : Wd) (what who : Int) : Int := if what = 0 ∨ qHail T (S 0 0) = false then sChoose T S what who else -1
def daySt (T S : Wd) (what who : Int) : Wd := if qPie T (dayCh T S what who) = true then sStroke T S (dayCh T S what who) else S
def dayLp (T S : Wd) (what : Int) : Wd × Int := if what = 4 then (S, 0) else sLapse T S
def sDay (T S : Wd) (what who : Int) : Wd :=
  let S3 := (dayLp T (daySt T (dayPay T S what who).1 what who) what).1
  up1 S3 0 (w32 (S3 0 0 + 1))
def dayPaid (T S : Wd) (what who : Int) : Int := (dayPay T S what who).2
def dayPick (T S : Wd) (what who : Int) : Int := dayCh T (dayPay T S what who).1 what who
def dayLaps (T S : Wd) (what who : Int) : Int := (dayLp T (daySt T (dayPay T S what who).1 what who) what).2
theorem SOK_dayPay {T S : Wd} (kk : SOK S) (what who : Int) : SOK (dayPay T S what who).1 := by
  unfold dayPay; split
  · exact kk
  · exact SOK_pay kk _
theorem SOK_daySt {T S : Wd} (kk : SOK S) (hT : TOK T) (what who : Int) : SOK (daySt T S what who) := by
  unfold daySt; split
  · rename_i q; exact SOK_stroke kk hT (qPie_iff.mp q)
  · exact kk
theorem SOK_dayLp {T S : Wd} (kk : SOK S) (what : Int) : SOK (dayLp T S what).1 := by
  unfold dayLp; split
  · exact kk
  · exact SOK_lapse kk
theorem SOK_day {T S : Wd} (kk : SOK S) (hT : TOK T) (what who : Int) : SOK (sDay T S what who) :=
  SOK_up1 (f := 0) (SOK_dayLp (SOK_daySt (SOK_dayPay kk what who) hT what who) what) (w32_I _) (by decide)
section DZ
variable {h : Hp} {s b : Int}
theorem kq_115 (c : CK h s b) (k0 : SOK (sV h s b)) (d : Nat) (y : Int) : ∃ h', C (d + 6) 115 [(2, y), (2, s)] h = some ((0, (sLapse (tC h b) (sV h s b)).2), h') ∧ Md s b h h' (sLapse (tC h b) (sV h s b)).1 := by
  obtain ⟨w, hs, hb, e, hT, -⟩ := id c
  have hN : 0 ≤ ld h b 11 ∧ ld h b 11 ≤ 10 := hT.2.2.1
  have key : ∀ (n : Nat) (k tot : Int) (h1 : Hp), CK h1 s b → SOK (sV h1 s b) → tC h1 b = tC h b → 0 ≤ k → k + n = ld h b 11 →
      ∃ h', V (d + 6) 115 4 [(9, 0), (2, s), (0, tot), (0, k)] [] h1 = some ((0, (fldP (lapK (tC h b)) n k (sV h1 s b, tot)).2), h') ∧ Md s b h1 h' (fldP (lapK (tC h b)) n k (sV h1 s b, tot)).1 := by
    intro n
    induction n with
    | zero =>
      intro k tot h1 c1 k1 t1 hk hn
      obtain ⟨w1, -, -, e1, -⟩ := id c1
      have p1 : ld h1 b 11 = ld h b 11 := congrFun (congrFun t1 2) 0
      exact ⟨h1, by rw [e115_4, if_pos (sfF0 w1 hs), e1, if_pos (bfF0 w1 hb), if_neg (by omega), e115_89]; rfl, Md_rf c1⟩
    | succ n ih =>
      intro k tot h1 c1 k1 t1 hk hn
      obtain ⟨w1, -, -, e1, hT1, -⟩ := id c1
      have p1 : ld h1 b 11 = ld h b 11 := congrFun (congrFun t1 2) 0
      have hkp : 0 ≤ k ∧ k < ld h1 b 11 := by omega
      have wk1 := wk hk (show k < ld h b 11 by omega) (by omega)
      obtain ⟨h2, a2, f2⟩ := kq_90 c1 hkp d
      rw [t1] at a2
      have fin : ∀ (x2 : Int) (h2 : Hp) (S2 : Wd), Md s b h1 h2 S2 → SOK S2 → lapK (tC h b) k (sV h1 s b, tot) = (S2, x2) →
          ∃ h', V (d + 6) 115 83 [(9, 0), (2, s), (0, x2), (0, k)] [] h2 = some ((0, (fldP (lapK (tC h b)) (n + 1) k (sV h1 s b, tot)).2), h') ∧ Md s b h1 h' (fldP (lapK (tC h b)) (n + 1) k (sV h1 s b, tot)).1 := by
        intro x2 h2 S2 m2 k2 ee
        obtain ⟨c2, t2, s2⟩ := CK_md c1 m2 k2
        obtain ⟨h', a, m⟩ := ih (k + 1) x2 h2 c2 (by rw [s2]; exact k2) (t2.trans t1) (by omega) (by omega)
        refine ⟨h', ?_, Md_tr m2 ?_⟩
        · rw [e115_83, wk1, a, s2]
          show _ = some ((0, (fldP (lapK (tC h b)) n (k + 1) (lapK (tC h b) k (sV h1 s b, tot))).2), h')
          rw [ee]
        · rw [s2] at m
          show Md s b h2 h' (fldP (lapK (tC h b)) n (k + 1) (lapK (tC h b) k (sV h1 s b, tot))).1
          rw [ee]; exact m
      rw [e115_4, if_pos (sfF0 w1 hs), e1, if_pos (bfF0 w1 hb), if_pos hkp.2, e115_15]
      simp only [sfF0 w1 hs, sfW0 w1 hs, sfF1 w1 hs, sfW1 w1 hs, sfL1 w1 hs, sfF2 w1 hs, sfW2 w1 hs, sfL2 w1 hs, sfF3 w1 hs, sfW3 w1 hs, sfL3 w1 hs, sfF4 w1 hs, sfW4 w1 hs, sfL4 w1 hs, sfF5 w1 hs, sfW5 w1 hs, sfL5 w1 hs, sfF6 w1 hs, sfW6 w1 hs, sfL6 w1 hs, sfF7 w1 hs, sfW7 w1 hs, sfL7 w1 hs, sfP6 w1 hs, sfP7 w1 hs, sfP8 w1 hs, sfP9 w1 hs, sfP11 w1 hs, sfP12 w1 hs, sfP13 w1 hs, e1, bfF0 w1 hb, bfW0 w1 hb, bfF1 w1 hb, bfW1 w1 hb, bfL1 w1 hb, bfF2 w1 hb, bfW2 w1 hb, bfL2 w1 hb, bfF3 w1 hb, bfW3 w1 hb, bfL3 w1 hb, bfF4 w1 hb, bfW4 w1 hb, bfL4 w1 hb, bfF5 w1 hb, bfW5 w1 hb, bfL5 w1 hb, bfF6 w1 hb, bfW6 w1 hb, bfL6 w1 hb, bfF7 w1 hb, bfW7 w1 hb, bfL7 w1 hb, bfF8 w1 hb, bfW8 w1 hb, bfL8 w1 hb, bfF9 w1 hb, bfW9 w1 hb, bfL9 w1 hb, bfF10 w1 hb, bfW10 w1 hb, bfL10 w1 hb, bfF11 w1 hb, bfW11 w1 hb, bfL11 w1 hb, bfF12 w1 hb, bfW12 w1 hb, bfL12 w1 hb, bfF13 w1 hb, bfW13 w1 hb, bfL13 w1 hb, bfF14 w1 hb, bfW14 w1 hb, bfL14 w1 hb, bfF15 w1 hb, bfW15 w1 hb, bfL15 w1 hb, bfF16 w1 hb, bfW16 w1 hb, bfL16 w1 hb, bfF17 w1 hb, bfW17 w1 hb, bfL17 w1 hb, bfP1 w1 hb, bfP2 w1 hb, bfP3 w1 hb, bfP5 w1 hb, bfP6 w1 hb, bfP7 w1 hb, bfP9 w1 hb, bfP10 w1 hb, bfP12 w1 hb, bfP13 w1 hb, bfP14 w1 hb, bfP16 w1 hb, bfP18 w1 hb, bfP19 w1 hb, if_true, hk, show k < 10 by omega, and_self, tC_14 hkp, t1]
      by_cases q1 : tC h b 14 k = ld h1 s 1
      · rw [if_pos q1, e115_31, if_pos (sfF0 w1 hs), Cl_eq _ (kq_89 w1 hs hb e1 hT1 (d + 3) hkp), t1]
        simp only [bI_e0]
        cases q2 : qDone (tC h b) (sV h1 s b) k with
        | true =>
          rw [if_neg (by decide)]
          exact fin tot h1 _ (Md_rf c1) k1 (by unfold lapK; rw [if_neg (fun z => by rw [q2] at z; exact absurd z.2.1 (by decide))])
        | false =>
          rw [if_pos rfl, if_pos (sfF0 w1 hs), Cl_eq _ a2]
          simp only [bI_e0]
          obtain ⟨c2, t2, s2⟩ := CK_fr c1 f2
          cases q3 : qPaid (tC h b) (sV h1 s b) k with
          | true =>
            rw [if_neg (by decide)]
            exact fin tot h2 _ (Md_fr c1 f2) k1 (by unfold lapK; rw [if_neg (fun z => by rw [q3] at z; exact absurd z.2.2 (by decide))])
          | false =>
            obtain ⟨w2, -, -, e2, -⟩ := id c2
            have p2 : ld h2 b 11 = ld h1 b 11 := congrFun (congrFun t2 2) 0
            have m3 := Md_u3 c2 (or32 (sV h2 s b 3 0) (shl32 1 k))
            have k3 : SOK (up1 (sV h2 s b) 3 (or32 (sV h2 s b 3 0) (shl32 1 k))) := SOK_up1 (by rw [s2]; exact k1) (or32_I _ _) (by decide)
            obtain ⟨c3, t3, s3⟩ := CK_md c2 m3 k3
            rw [if_pos rfl, e115_47, if_pos (sfF0 w2 hs), if_pos (sfW0 w2 hs), show ld h2 s 4 = sV h2 s b 3 0 from rfl]
            generalize hh3 : st h2 s 4 (or32 (sV h2 s b 3 0) (shl32 1 k)) = h3 at *
            obtain ⟨w3, -, -, e3, -⟩ := id c3
            have p3 : ld h3 b 11 = ld h2 b 11 := congrFun (congrFun t3 2) 0
            have m4 := Md_u4 c3 (and32 (sV h3 s b 4 0) (xor32 (shl32 1 k) (-1)))
            have k4 : SOK (up1 (sV h3 s b) 4 (and32 (sV h3 s b 4 0) (xor32 (shl32 1 k) (-1)))) := SOK_up1 (by rw [s3]; exact k3) (and32_I _ _) (by decide)
            obtain ⟨c4, t4, s4⟩ := CK_md c3 m4 k4
            rw [e115_59, if_pos (sfF0 w3 hs), if_pos (sfW0 w3 hs), show ld h3 s 5 = sV h3 s b 4 0 from rfl]
            generalize hh4 : st h3 s 5 (and32 (sV h3 s b 4 0) (xor32 (shl32 1 k) (-1))) = h4 at *
            obtain ⟨w4, -, -, e4, -⟩ := id c4
            have p4 : ld h4 b 11 = ld h3 b 11 := congrFun (congrFun t4 2) 0
            have m5 := Md_u8 c4 (i := k) (by omega) 0
            rw [e115_73, if_pos (sfF0 w4 hs), sfP8 w4 hs, if_pos (sfW3 w4 hs), sfL3 w4 hs, if_pos ⟨hk, by omega⟩, e115_80]
            refine fin _ _ _ (Md_tr (Md_fr c1 f2) (Md_tr m3 (Md_tr m4 m5))) (SOK_up2 (by rw [s4]; exact k4) (I32_of (by decide)) (by decide)) ?_
            unfold lapK
            rw [if_pos ⟨q1, q2, q3⟩, s4, s3, s2]
            rfl
      · rw [if_neg q1]
        exact fin tot h1 _ (Md_rf c1) k1 (by unfold lapK; rw [if_neg (fun z => q1 z.1)])
  rw [ce_115, e115_0]
  obtain ⟨h', a, m⟩ := key (ld h b 11).toNat 0 0 h c k0 rfl (by decide) (by omega)
  exact ⟨h', a, m⟩
/-- the painter's day -/
theorem pnt_n (j : Int) (hj : 0 ≤ j ∧ j < 6) : npt 283 j := npt_J (by
  have h6 : j = 0 ∨ j = 1 ∨ j = 2 ∨ j = 3 ∨ j = 4 ∨ j = 5 := by omega
  rcases h6 with rfl | rfl | rfl | rfl | rfl | rfl <;> decide +kernel)
theorem kq_109 (c : CK h s b) (k0 : SOK (sV h s b)) (d : Nat) (what who : Int) : ∃ h', C (d + 7) 109 [(2, 283), (2, s), (0, what), (0, who)] h = some ((9, 0), h') ∧ Mx 283 286 s b h h' (sDay (tC h b) (sV h s b) what who) ∧ ld h' 283 0 = dayPaid (tC h b) (sV h s b) what who ∧ ld h' 283 1 = dayPick (tC h b) (sV h s b) what who ∧ ld h' 283 2 = dayLaps (tC h b) (sV h s b) what who := by
  obtain ⟨w, hs, hb, e, hT, -⟩ := id c
  have r := st_b hs
  -- the last: lapses and the day
  have p3 : ∀ (h1 : Hp) (S1 : Wd) (v0 v1 : Int), Mx 283 286 s b h h1 S1 → SOK S1 → ld h1 283 0 = v0 → ld h1 283 1 = v1 → ∃ h', V (d + 7) 109 84 [(2, 283), (2, s), (0, what), (9, 0)] [] h1 = some ((9, 0), h') ∧ Mx 283 286 s b h h' (up1 (dayLp (tC h b) S1 what).1 0 (w32 ((dayLp (tC h b) S1 what).1 0 0 + 1))) ∧ ld h' 283 0 = v0 ∧ ld h' 283 1 = v1 ∧ ld h' 283 2 = (dayLp (tC h b) S1 what).2 := by
    intro h1 S1 v0 v1 m1 k1 r0 r1
    obtain ⟨c1, t1, s1⟩ := CK_mx c m1 (by decide) k1
    obtain ⟨w1, -, -, e1, -⟩ := id c1
    have last : ∀ (h2 : Hp) (S2 : Wd) (v2 : Int), Md s b h1 h2 S2 → SOK S2 → ∃ h', V (d + 7) 109 99 [(9, 0), (2, s), (9, 0), (9, 0)] [(0, v2), (2, 283)] h2 = some ((9, 0), h') ∧ Mx 283 286 s b h h' (up1 S2 0 (w32 (S2 0 0 + 1))) ∧ ld h' 283 0 = v0 ∧ ld h' 283 1 = v1 ∧ ld h' 283 2 = v2 := by
      intro h2 S2 v2 m2 k2
      obtain ⟨c2, t2, s2⟩ := CK_md c1 m2 k2
      obtain ⟨w2, -, -, e2, -⟩ := id c2
      have g0 : ld h2 283 0 = v0 := (m2.2.2.1 283 0 (by decide +kernel) (by omega)).trans r0
      have g1 : ld h2 283 1 = v1 := (m2.2.2.1 283 1 (by decide +kernel) (by omega)).trans r1
      have m3 : Mx 283 286 s b h2 (st h2 283 2 v2) (sV h2 s b) := Mx_st c2 (by decide) (by decide) (pnt_n 2 (by decide))
      obtain ⟨c3, t3, s3⟩ := CK_mx c2 m3 (by decide) (by rw [s2]; exact k2)
      obtain ⟨w3, -, -, e3, -⟩ := id c3
      have m4 := Md_u0 c3 (w32 (sV (st h2 283 2 v2) s b 0 0 + 1))
      refine ⟨st (st h2 283 2 v2) s 1 (w32 (sV (st h2 283 2 v2) s b 0 0 + 1)), ?_, ?_, ?_, ?_, ?_⟩
      · rw [e109_99, if_pos (W_a283 w2), if_pos (sfF0 w3 hs), if_pos (sfW0 w3 hs), e109_112]; rfl
      · have m5 : Mx 283 286 s b h (st (st h2 283 2 v2) s 1 (w32 (sV (st h2 283 2 v2) s b 0 0 + 1))) _ := Mx_tr m1 (Mx_tr (Mx_of m2) (Mx_tr m3 (Mx_of m4)))
        rw [s3, s2] at m5
        rw [s3, s2]
        exact m5
      · rw [ld_st_ne (Or.inl (by omega)), ld_st_ne (Or.inr (by decide))]; exact g0
      · rw [ld_st_ne (Or.inl (by omega)), ld_st_ne (Or.inr (by decide))]; exact g1
      · rw [ld_st_ne (Or.inl (by omega)), ld_st_eq]
    rw [e109_84]
    unfold dayLp
    by_cases w4 : what = 4
    · rw [if_pos w4, if_pos w4]
      exact last h1 S1 0 (by have := Md_rf c1; rw [s1] at this; exact this) k1
    · rw [if_neg w4, if_neg w4]
      obtain ⟨h2, a2, m2⟩ := kq_115 c1 (by rw [s1]; exact k1) d 283
      rw [t1, s1] at a2 m2
      rw [e109_94, if_pos (F_a283 w1), Cl_eq _ a2]
      exact last h2 _ _ m2 (SOK_lapse k1)
  -- the brush
  have p2 : ∀ (h1 : Hp) (S1 : Wd) (v0 : Int), Mx 283 286 s b h h1 S1 → SOK S1 → ∃ h', V (d + 7) 109 25 [(2, 283), (2, s), (0, what), (0, who)] [(0, v0), (2, 283)] h1 = some ((9, 0), h') ∧ Mx 283 286 s b h h' (up1 (dayLp (tC h b) (daySt (tC h b) S1 what who) what).1 0 (w32 ((dayLp (tC h b) (daySt (tC h b) S1 what who) what).1 0 0 + 1))) ∧ ld h' 283 0 = v0 ∧ ld h' 283 1 = dayCh (tC h b) S1 what who ∧ ld h' 283 2 = (dayLp (tC h b) (daySt (tC h b) S1 what who) what).2 := by
    intro h1 S1 v0 m1 k1
    obtain ⟨c1, t1, s1⟩ := CK_mx c m1 (by decide) k1
    obtain ⟨w1, -, -, e1, -⟩ := id c1
    have m2 : Mx 283 286 s b h1 (st h1 283 0 v0) (sV h1 s b) := Mx_st c1 (by decide) (by decide) (pnt_n 0 (by decide))
    obtain ⟨c2, t2, s2⟩ := CK_mx c1 m2 (by decide) (by rw [s1]; exact k1)
    obtain ⟨w2, -, -, e2, -⟩ := id c2
    have m3 : Mx 283 286 s b (st h1 283 0 v0) (st (st h1 283 0 v0) 283 1 (-1)) (sV (st h1 283 0 v0) s b) := Mx_st c2 (by decide) (by decide) (pnt_n 1 (by decide))
    obtain ⟨c3, t3, s3⟩ := CK_mx c2 m3 (by decide) (by rw [s2, s1]; exact k1)
    have g0 : ld (st (st h1 283 0 v0) 283 1 (-1)) 283 0 = v0 := by rw [ld_st_ne (Or.inr (by decide)), ld_st_eq]
    have g1 : ld (st (st h1 283 0 v0) 283 1 (-1)) 283 1 = -1 := ld_st_eq _ _ _ _
    rw [e109_25, if_pos (W_a283 w1), if_pos (W_a283 w2)]
    have m13 : Mx 283 286 s b h (st (st h1 283 0 v0) 283 1 (-1)) S1 := by
      have := Mx_tr m1 (Mx_tr m2 m3); rw [s2, s1] at this; exact this
    generalize st (st h1 283 0 v0) 283 1 (-1) = h3 at *
    rw [s2, s1] at s3
    have tt3 : tC h3 b = tC h b := t3.trans (t2.trans t1)
    obtain ⟨w3, -, -, e3, -⟩ := id c3
    -- it chooses
    have ch : ∃ h', V (d + 7) 109 51 [(2, 283), (2, s), (0, what), (0, who)] [] h3 = some ((9, 0), h') ∧ Mx 283 286 s b h h' (up1 (dayLp (tC h b) (if qPie (tC h b) (sChoose (tC h b) S1 what who) = true then sStroke (tC h b) S1 (sChoose (tC h b) S1 what who) else S1) what).1 0 (w32 ((dayLp (tC h b) (if qPie (tC h b) (sChoose (tC h b) S1 what who) = true then sStroke (tC h b) S1 (sChoose (tC h b) S1 what who) else S1) what).1 0 0 + 1))) ∧ ld h' 283 0 = v0 ∧ ld h' 283 1 = sChoose (tC h b) S1 what who ∧ ld h' 283 2 = (dayLp (tC h b) (if qPie (tC h b) (sChoose (tC h b) S1 what who) = true then sStroke (tC h b) S1 (sChoose (tC h b) S1 what who) else S1) what).2 := by
      obtain ⟨h4, a4, f4⟩ := kq_113 c3 d what who
      rw [tt3, s3] at a4
      obtain ⟨c4, t4, s4⟩ := CK_fr c3 f4
      obtain ⟨w4, -, -, e4, -⟩ := id c4
      rw [e109_51, if_pos (F_a283 w3), Cl_eq _ a4, if_pos (W_a283 w4)]
      have m5 : Mx 283 286 s b h4 (st h4 283 1 (sChoose (tC h b) S1 what who)) (sV h4 s b) := Mx_st c4 (by decide) (by decide) (pnt_n 1 (by decide))
      have k4 : SOK (sV h4 s b) := by rw [s4, s3]; exact k1
      obtain ⟨c5, t5, s5⟩ := CK_mx c4 m5 (by decide) k4
      have m15 : Mx 283 286 s b h (st h4 283 1 (sChoose (tC h b) S1 what who)) S1 := by
        have := Mx_tr m13 (Mx_tr (Mx_of (Md_fr c3 f4)) m5); rw [s4, s3] at this; exact this
      have q0 : ld (st h4 283 1 (sChoose (tC h b) S1 what who)) 283 0 = v0 := by
        rw [ld_st_ne (Or.inr (by decide))]; exact (f4.2.2 283 0 (by decide +kernel)).trans g0
      have q1 : ld (st h4 283 1 (sChoose (tC h b) S1 what who)) 283 1 = sChoose (tC h b) S1 what who := ld_st_eq _ _ _ _
      generalize st h4 283 1 (sChoose (tC h b) S1 what who) = h5 at *
      obtain ⟨w5, -, -, e5, -⟩ := id c5
      have tt5 : tC h5 b = tC h b := t5.trans (t4.trans tt3)
      have ss5 : sV h5 s b = S1 := s5.trans (s4.trans s3)
      rw [e109_62, if_pos (sfF0 w5 hs), if_pos (F_a283 w5), e5, if_pos (bfF0 w5 hb), q1, Cl_eq _ (kq_68 w5 hb (d + 6) _), tt5]
      simp only [bI_e0]
      by_cases hq : qPie (tC h b) (sChoose (tC h b) S1 what who) = true
      · have hpp : 0 ≤ sChoose (tC h b) S1 what who ∧ sChoose (tC h b) S1 what who < ld h5 b 11 := by
          have := qPie_iff.mp hq
          rw [← tt5] at this ⊢
          exact this
        obtain ⟨h6, a6, m6⟩ := kq_101 c5 (by rw [ss5]; exact k1) hpp (d + 3)
        rw [tt5, ss5] at m6
        rw [if_neg (by rw [hq]; decide), e109_76, if_pos (F_a283 w5), if_pos (sfF0 w5 hs), q1, Cl_eq _ a6, if_pos hq]
        refine p3 h6 _ v0 _ (Mx_tr m15 (Mx_of m6)) (SOK_stroke k1 hT (qPie_iff.mp hq)) ?_ ?_
        · exact (m6.2.2.1 283 0 (by decide +kernel) (by omega)).trans q0
        · exact (m6.2.2.1 283 1 (by decide +kernel) (by omega)).trans q1
      · rw [if_pos (Bool.eq_false_iff.mpr hq), if_neg hq]
        exact p3 h5 _ v0 _ m15 k1 q0 q1
    have nch : qPie (tC h b) (-1) = false := rfl
    unfold daySt dayCh
    by_cases w0 : what = 0
    · rw [if_pos w0, if_pos (Or.inl w0)]; exact ch
    · rw [if_neg w0, e109_37, if_pos (sfF0 w3 hs), if_pos (sfF0 w3 hs), e3, if_pos (bfF0 w3 hb), Cl_eq _ (kq_69 w3 hb (d + 6) _), tt3, show ld h3 s 1 = S1 0 0 from congrFun (congrFun s3 0) 0]
      simp only [bI_e0]
      cases hh : qHail (tC h b) (S1 0 0) with
      | false => rw [if_pos rfl, if_pos (Or.inr rfl)]; exact ch
      | true =>
        have hn : ¬ (what = 0 ∨ (true : Bool) = false) := fun z => z.elim w0 (fun q => by cases q)
        rw [if_neg (by decide), if_neg hn, if_neg (show ¬ qPie (tC h b) (-1) = true by rw [nch]; decide)]
        exact p3 h3 S1 v0 (-1) m13 k1 g0 g1
  rw [ce_109, e109_0]
  have mr : Mx 283 286 s b h h (sV h s b) := Mx_of (Md_rf c)
  by_cases w4 : what = 4
  · rw [if_pos w4]
    have hd : dayPay (tC h b) (sV h s b) what who = (sV h s b, 0) := if_pos w4
    unfold sDay dayPaid dayPick dayLaps
    rw [hd]
    exact p2 h _ 0 mr k0
  · rw [if_neg w4, e109_10]
    have hd : dayPay (tC h b) (sV h s b) what who = sPay (tC h b) (sV h s b) (if what = 1 then who else -1) := if_neg w4
    unfold sDay dayPaid dayPick dayLaps
    rw [hd]
    have py : ∀ skip : Int, ∃ h', V (d + 7) 109 22 [(2, 283), (2, s), (0, what), (0, who)] [(0, skip), (2, s), (2, 283), (2, 283)] h = some ((9, 0), h') ∧ Mx 283 286 s b h h' (up1 (dayLp (tC h b) (daySt (tC h b) (sPay (tC h b) (sV h s b) skip).1 what who) what).1 0 (w32 ((dayLp (tC h b) (daySt (tC h b) (sPay (tC h b) (sV h s b) skip).1 what who) what).1 0 0 + 1))) ∧ ld h' 283 0 = (sPay (tC h b) (sV h s b) skip).2 ∧ ld h' 283 1 = dayCh (tC h b) (sPay (tC h b) (sV h s b) skip).1 what who ∧ ld h' 283 2 = (dayLp (tC h b) (daySt (tC h b) (sPay (tC h b) (sV h s b) skip).1 what who) what).2 := by
      intro skip
      obtain ⟨h2, a2, m2⟩ := kq_110 c k0 d skip
      rw [e109_22, if_pos (F_a283 w), Cl_eq _ a2]
      exact p2 h2 _ _ (Mx_of m2) (SOK_pay k0 skip)
    by_cases w1 : what = 1
    · rw [if_pos w1, if_pos w1]; exact py who
    · rw [if_neg w1, if_neg w1, e109_21]; exact py (-1)
end DZ
