/-! layer 2: the plain program: what if, deaths, forgers -/
section DI
variable {h h' : Hp} {z : Zt} {n : Int}
theorem rk_188 (w : WF h) (d : Nat) : C d 188 [(2, 311)] h = some ((9, 0), st (st h 311 53 (-1)) 311 54 (-1)) ∧ WF (st (st h 311 53 (-1)) 311 54 (-1)) := by
  have w1 : WF (st h 311 53 (-1)) := wf_st w (n311 53 (by decide +kernel))
  refine ⟨?_, wf_st w1 (n311 54 (by decide +kernel))⟩
  rw [ce_188, e188_0, if_pos (W_a311 w), if_pos (W_a311 w1), e188_10]
def ft (x j : Int) : Prop := x ≠ 348 ∧ x ≠ 349 ∧ ¬ (x = 311 ∧ j = 57) ∧ ¬ inA 1 x j ∧ ¬ ((345 ≤ x ∧ x ≤ 347) ∧ 100 ≤ j ∧ j < 200)
theorem trd_loop {T : Wd} (tx : TX T) (hn : n ≤ 600) {what who x : Int} (hx : x ≤ 100) (d : Nat) : ∀ (m : Nat) (S : Wd) (h : Hp) (k : Int), RK h 1 T S → IV n T S → ld h 311 53 = what → ld h 311 54 = who → 0 ≤ k → k + m = x → ∃ h', V (d + 11) 235 100 [(2, 311), (9, 0), (9, 0), (0, x), (9, 0), (0, k)] [] h = V (d + 11) 235 128 [(2, 311), (9, 0), (9, 0), (9, 0), (9, 0), (9, 0)] [] h' ∧ h'.2 = h.2 ∧ (∀ y j, ft y j → ld h' y j = ld h y j) ∧ RK h' 1 T (trN T what who m S) ∧ IV n T (trN T what who m S)
  | 0, S, h, k, r, iv, e53, e54, k0, hk => by
    refine ⟨h, ?_, rfl, fun _ _ _ => rfl, r, iv⟩
    rw [e235_100, if_neg (by omega)]
  | m + 1, S, h, k, r, iv, e53, e54, k0, hk => by
    have w := r.w
    have d0 := iv.2.2.2.2.1
    unfold trN
    have e100 : V (d + 11) 235 100 [(2, 311), (9, 0), (9, 0), (0, x), (9, 0), (0, k)] [] h = if S 0 0 < 100 then V (d + 11) 235 117 [(2, 311), (9, 0), (9, 0), (0, x), (9, 0), (0, k)] [] h else V (d + 11) 235 128 [(2, 311), (9, 0), (9, 0), (9, 0), (9, 0), (9, 0)] [] h := by
      rw [e235_100, if_pos (by omega), if_pos (F_a311 w), P_311_36 w, if_pos (F_a333 w), L_a333 w, if_pos (by decide), rs0 r]
    rw [e100]
    by_cases q : S 0 0 < 100
    · obtain ⟨h1, a1, ⟨f1, f2⟩, r1, iv1, -⟩ := rk_204 r tx iv hn q (by decide) d
      rw [e53, e54] at r1 iv1
      have g53 : ld h1 311 53 = what := (f2 311 53 (by decide) (by decide) (by decide) (by unfold inA; omega) (by omega)).trans e53
      have g54 : ld h1 311 54 = who := (f2 311 54 (by decide) (by decide) (by decide) (by unfold inA; omega) (by omega)).trans e54
      obtain ⟨h', aa, s', ff, rest⟩ := trd_loop tx hn hx d m _ h1 (k + 1) r1 iv1 g53 g54 (by omega) (by omega)
      rw [if_pos q, if_pos q]
      refine ⟨h', ?_, s'.trans f1, fun y j e => (ff y j e).trans (f2 y j e.1 e.2.1 e.2.2.1 e.2.2.2.1 (by have := e.2.2.2.2; omega)), rest⟩
      rw [e235_117, if_pos (F_a311 w), Cl_eq _ a1, show w32 (k + 1) = k + 1 by unfold w32; omega, aa]
    · rw [if_neg q, if_neg q]
      exact ⟨h, rfl, rfl, fun _ _ _ => rfl, r, iv⟩
theorem rk_235 (c : RR n h z) (a b x : Int) (d : Nat) : OPr n h z (d + 11) 235 [(2, 311), (0, a), (0, b), (0, x)] 0 (zTried a b x z) n z := by
  obtain ⟨c0, f0⟩ := RR_0 c 0
  have w := c.k.w
  have w0 := c0.k.w
  unfold zTried
  have e0 : C (d + 11) 235 [(2, 311), (0, a), (0, b), (0, x)] h = V (d + 11) 235 62 [(2, 311), (0, a), (0, b), (0, x), (9, 0), (9, 0)] [(0, bI (qTry z.T a b))] (st h 311 0 0) := by
    rw [ce_235, e235_0, if_pos (W_a311 w)]
    have e19 : V (d + 11) 235 19 [(2, 311), (0, a), (0, b), (0, x), (9, 0), (9, 0)] [] (st h 311 0 0) = V (d + 11) 235 62 [(2, 311), (0, a), (0, b), (0, x), (9, 0), (9, 0)] [(0, bI (decide (b = 0)))] (st h 311 0 0) := by
      rw [e235_19]
      by_cases y : b = 0
      · rw [if_pos y, decide_eq_true y]; rfl
      · rw [if_neg y, e235_27, decide_eq_false y]; rfl
    unfold qTry
    by_cases a0 : a = 0
    · rw [if_pos a0, e19, if_pos (Or.inl a0)]
    rw [if_neg a0, e235_9]
    by_cases a3 : a = 3
    · rw [if_pos a3, e19, if_pos (Or.inr (Or.inl a3))]
    rw [if_neg a3]
    by_cases a4 : a = 4
    · rw [if_pos a4, e19, if_pos (Or.inr (Or.inr a4))]
    rw [if_neg a4, e235_31, if_neg (show ¬ (a = 0 ∨ a = 3 ∨ a = 4) by omega)]
    by_cases a1 : a = 1
    · rw [if_pos a1, if_pos a1, if_pos (F_a311 w0), Cl_eq _ (rk_180 c0.k.1 b (d + 10))]
    rw [if_neg a1, if_neg a1, e235_44]
    by_cases a2 : a = 2
    · rw [if_pos a2, if_pos a2, if_pos (F_a311 w0), Cl_eq _ (rk_181 c0.k.1 b (d + 10))]
      cases qFea z.T b with
      | false => rw [if_pos bI_f, e235_61]; rfl
      | true => rw [if_neg (by decide), e235_57]; rfl
    · rw [if_neg a2, if_neg a2, e235_61]; rfl
  rw [e235_62, e235_73] at e0
  generalize st h 311 0 0 = h0 at *
  have e79 : V (d + 11) 235 79 [(9, 0), (9, 0), (9, 0), (9, 0), (9, 0), (9, 0)] [] h0 = some ((0, -1), h0) := by rw [e235_79]
  rw [e79] at e0
  cases hq : qTry z.T a b with
  | false => rw [if_pos (Or.inr (Or.inr rfl))]; exact ⟨h0, by rw [e0, hq, if_pos bI_f], c0, f0⟩
  | true =>
    rw [hq, if_neg (by decide)] at e0
    by_cases q0 : x < 0
    · rw [if_pos (Or.inl q0)]; exact ⟨h0, by rw [e0, if_pos q0], c0, f0⟩
    by_cases q1 : 100 < x
    · rw [if_pos (Or.inr (Or.inl q1))]; exact ⟨h0, by rw [e0, if_neg q0, if_pos q1], c0, f0⟩
    rw [if_neg (by rintro (u | u | u); · exact q0 u
                   · exact q1 u
                   · cases u)]
    rw [if_neg q0, if_neg q1] at e0
    obtain ⟨h1, a1, f1, r1⟩ := rk_178 (t := 1) c0.k c.iv.2.2.2.1.2 (by decide) (by decide) (d + 10)
    have w1 := r1.w
    have w2 : WF (st h1 311 53 a) := wf_st w1 (n311 53 (by decide +kernel))
    have w3 : WF (st (st h1 311 53 a) 311 54 b) := wf_st w2 (n311 54 (by decide +kernel))
    have fr3 : ∀ y j, ¬ (y = 311 ∧ (j = 53 ∨ j = 54)) → ld (st (st h1 311 53 a) 311 54 b) y j = ld h1 y j := fun y j e => (ld_st_ne (by omega)).trans (ld_st_ne (by omega))
    have r3 : RK (st (st h1 311 53 a) 311 54 b) 1 z.T z.S := RK_eq r1 w3 (fun y j u v => fr3 y j (by omega))
    have g53 : ld (st (st h1 311 53 a) 311 54 b) 311 53 = a := (ld_st_ne (Or.inr (by decide))).trans (ld_st_eq _ _ _ _)
    have g54 : ld (st (st h1 311 53 a) 311 54 b) 311 54 = b := ld_st_eq _ _ _ _
    have s3 : (st (st h1 311 53 a) 311 54 b).2 = h1.2 := rfl
    have e81 : V (d + 11) 235 81 [(2, 311), (0, a), (0, b), (0, x), (9, 0), (9, 0)] [] h0 = V (d + 11) 235 100 [(2, 311), (9, 0), (9, 0), (0, x), (9, 0), (0, 0)] [] (st (st h1 311 53 a) 311 54 b) := by
      rw [e235_81, if_pos (F_a311 w0), Cl_eq _ a1, if_pos (W_a311 w1), e235_92, if_pos (W_a311 w2)]
    generalize st (st h1 311 53 a) 311 54 b = h3 at *
    obtain ⟨h4, a4, s4, f4, r4, iv4⟩ := trd_loop (n := n) (x := x) c.tx c.nb.2 (by omega) d x.toNat z.S h3 0 r3 c.iv g53 g54 (by decide) (by omega)
    have w4 := r4.w
    obtain ⟨a5, w5⟩ := rk_188 w4 (d + 10)
    have fr5 : ∀ y j, ¬ (y = 311 ∧ (j = 53 ∨ j = 54)) → ld (st (st h4 311 53 (-1)) 311 54 (-1)) y j = ld h4 y j := fun y j e => (ld_st_ne (by omega)).trans (ld_st_ne (by omega))
    have r5 : RK (st (st h4 311 53 (-1)) 311 54 (-1)) 1 z.T (trN z.T a b x.toNat z.S) := RK_eq r4 w5 (fun y j u v => fr5 y j (by omega))
    have k53 : ld (st (st h4 311 53 (-1)) 311 54 (-1)) 311 53 = -1 := (ld_st_ne (Or.inr (by decide))).trans (ld_st_eq _ _ _ _)
    have k54 : ld (st (st h4 311 53 (-1)) 311 54 (-1)) 311 54 = -1 := ld_st_eq _ _ _ _
    have s5 : (st (st h4 311 53 (-1)) 311 54 (-1)).2 = h4.2 := rfl
    generalize st (st h4 311 53 (-1)) 311 54 (-1) = h5 at *
    have a6 := rk_236 r5 iv4 (d + 9)
    have fr : ∀ y j, ft y j → ¬ (y = 311 ∧ (j = 53 ∨ j = 54)) → ld h5 y j = ld h0 y j := fun y j e e2 => (fr5 y j e2).trans ((f4 y j e).trans ((fr3 y j e2).trans (f1.2.2 y j e.1 e.2.1 e.2.2.1 e.2.2.2.1)))
    refine ⟨h5, by rw [e0, e81, a4, e235_128, if_pos (F_a311 w4), Cl_eq _ a5, if_pos (F_a311 w5), Cl_eq _ a6], ?_, FrM_tr f0 ⟨s5.trans (s4.trans (s3.trans f1.2.1)), fun y j e => fr y j (by unfold ft inA; omega) (by omega)⟩⟩
    refine RR_gen2 c0 w5 (fun y j e1 e2 e3 => ?_)
    by_cases y1 : y = 311 ∧ j = 53
    · rw [y1.1, y1.2, k53]; exact c0.t53.symm
    by_cases y2 : y = 311 ∧ j = 54
    · rw [y2.1, y2.2, k54]; exact c0.t54.symm
    · exact fr y j ⟨by unfold rz at e1; omega, by unfold rz at e1; omega, by unfold rz at e1; omega, e2, e3⟩ (by omega)
theorem bit_clr {l p : Int} (hl : 0 ≤ l ∧ l < 1024) (hp : 0 ≤ p ∧ p < 10) (hb : and32 (shr32 l p) 1 = 0) (r : Int) : and32 (or32 r (shl32 1 p)) (xor32 l (-1)) = or32 (and32 r (xor32 l (-1))) (shl32 1 p) := by
  obtain ⟨L, rfl⟩ := Int.eq_ofNat_of_zero_le hl.1
  obtain ⟨P, rfl⟩ := Int.eq_ofNat_of_zero_le hp.1
  rw [bitN _ _ (by omega)] at hb
  have hP : L.testBit P = false := by
    cases hq : L.testBit P with
    | false => rfl
    | true => rw [hq, if_pos rfl] at hb; omega
  rw [shl1_n (by omega)]
  unfold and32 or32 xor32
  simp only [ofI]
  congr 1
  apply Int32.toBitVec_inj.mp
  simp only [Int32.toBitVec_and, Int32.toBitVec_or, Int32.toBitVec_xor]
  have h1 : (Int32.ofInt (-1)).toBitVec = BitVec.allOnes 32 := by decide
  have h2 : (Int32.ofInt ((2 ^ P : Nat) : Int)).toBitVec = BitVec.ofNat 32 (2 ^ P) := by
    show BitVec.ofInt 32 ((2 ^ P : Nat) : Int) = _
    rw [BitVec.ofInt_natCast]
  have h3 : (Int32.ofInt (L : Int)).toBitVec = BitVec.ofNat 32 L := by
    show BitVec.ofInt 32 (L : Int) = _
    rw [BitVec.ofInt_natCast]
  have h3' : (Int32.ofInt (Int.ofNat L)).toBitVec = BitVec.ofNat 32 L := h3
  rw [h1, h2]
  first | rw [h3] | rw [h3']
  generalize (Int32.ofInt r).toBitVec = R
  have hp2 : 2 ^ P < 2 ^ 32 := Nat.pow_lt_pow_right (by decide) (by omega)
  ext i hi
  have gL : (BitVec.ofNat 32 L)[i] = L.testBit i := by rw [BitVec.getElem_eq_testBit_toNat, BitVec.toNat_ofNat, Nat.mod_eq_of_lt (by omega)]
  have gP : (BitVec.ofNat 32 (2 ^ P))[i] = decide (P = i) := by rw [BitVec.getElem_eq_testBit_toNat, BitVec.toNat_ofNat, Nat.mod_eq_of_lt hp2, Nat.testBit_two_pow]
  simp only [BitVec.getElem_and, BitVec.getElem_or, BitVec.getElem_xor, BitVec.getElem_allOnes, gL, gP]
  by_cases q : P = i
  · have hi2 : L.testBit i = false := by rw [← q]; exact hP
    rw [decide_eq_true q, hi2]; simp
  · rw [decide_eq_false q]; simp
theorem IV_4 {T S : Wd} (iv : IV n T S) (v : Int) : IV n T (up1 S 4 v) := iv
theorem rk_226 (c : RR n h z) (p : Int) (d : Nat) : OPr n h z (d + 3) 226 [(2, 311), (0, p)] 0 (zForge p z).1 n (zForge p z).2 := by
  obtain ⟨c0, f0⟩ := RR_0 c 0
  have w := c.k.w
  have w0 := c0.k.w
  have hT := c.k.K
  unfold zForge
  have e0 : C (d + 3) 226 [(2, 311), (0, p)] h = if bI (qPie z.T p) = 0 then some ((0, -1), st h 311 0 0) else V (d + 3) 226 13 [(2, 311), (0, p)] [] (st h 311 0 0) := by
    rw [ce_226, e226_0, if_pos (W_a311 w), if_pos (F_a311 w0), Cl_eq _ (rk_182 c0.k.1 p (d + 2)), e226_45]
  generalize st h 311 0 0 = h0 at *
  cases hq : qPie z.T p with
  | false => rw [if_pos (Or.inl rfl)]; exact ⟨h0, by rw [e0, hq, if_pos bI_f], c0, f0⟩
  | true =>
    have hp := qPie_iff.mp hq
    obtain ⟨p1, p2, p3, p4, p5, p6⟩ := pieT hT hp
    rw [hq, if_neg (by decide)] at e0
    have e45 : V (d + 3) 226 45 [(9, 0), (9, 0)] [] h0 = some ((0, -1), h0) := by rw [e226_45]
    have e13 : V (d + 3) 226 13 [(2, 311), (0, p)] [] h0 = if bI (qOpen z.T z.S p) = 0 then some ((0, -1), h0) else V (d + 3) 226 47 [(2, 311), (0, p)] [] h0 := by
      unfold qOpen
      rw [e226_13, if_pos (F_a311 w0), Cl_eq _ (rk_185 c0.k hp (d + 2)), qFull_D c.iv hp]
      cases qDone z.T z.S p with
      | true => rw [if_neg (by decide), e45, Bool.not_true, Bool.and_false, Bool.false_and, if_pos bI_f]
      | false =>
        rw [if_pos bI_f, e226_22, if_pos (F_a311 w0), Cl_eq _ (rk_184 c0.k p (d + 2))]
        cases qLap z.S p with
        | true => rw [if_neg (by decide), e45, Bool.not_true, Bool.false_and, Bool.false_and, if_pos bI_f]
        | false =>
          rw [if_pos bI_f, e226_31, if_pos (F_a311 w0), P_311_12 w0, if_pos (F_a322 w0), L_a322 w0, if_pos (by omega), if_pos (F_a311 w0), rt12 c0.k.1 hp, Cl_eq _ (rk_183 c0.k (z.T 12 p) (d + 2))]
          cases qLiv z.S (z.T 12 p) with
          | false => rw [if_pos bI_f, e45, Bool.and_false, if_pos bI_f]
          | true => rw [if_neg (by decide), Bool.not_false, Bool.and_self, Bool.and_self, if_neg (by decide)]
    rw [e13] at e0
    cases ho : qOpen z.T z.S p with
    | false => rw [if_pos (Or.inr rfl)]; exact ⟨h0, by rw [e0, ho, if_pos bI_f], c0, f0⟩
    | true =>
      rw [ho, if_neg (by decide)] at e0
      rw [if_neg (by rintro (u | u) <;> cases u)]
      unfold qOpen at ho
      have hlap : qLap z.S p = false := by cases hl : qLap z.S p <;> rw [hl] at ho <;> simp at ho ⊢
      have hdn : qDone z.T z.S p = false := by cases hl : qDone z.T z.S p <;> rw [hl] at ho <;> simp at ho ⊢
      have h8 : z.S 8 p < tSize z.T p := by
        unfold qDone at hdn
        by_cases y : z.S 8 p < tSize z.T p
        · exact y
        · rw [decide_eq_false y] at hdn; cases hdn
      have hbit : and32 (shr32 (z.S 3 0) p) 1 = 0 := by
        unfold qLap at hlap
        by_cases y : and32 (shr32 (z.S 3 0) p) 1 = 0
        · exact y
        · rw [decide_eq_false y] at hlap; cases hlap
      obtain ⟨h1, a1, c1, f1, -⟩ := rk_218 c0 (d + 1)
      have w1 := c1.k.w
      have k1 : RK h1 0 z.T z.S := c1.k
      have eF : and32 (or32 (ld h1 337 0) (shl32 1 p)) (xor32 (ld h1 336 0) (-1)) = or32 (z.S 4 0) (shl32 1 p) := by
        rw [rs3 k1, bit_clr c.iv.2.2.2.2.2.1 p1 hbit, ← rs3 k1, rs4 k1]
      have f2 := FrA_st (FrA_rf (a := 0) w1) (x := 337) (j := 0) (by unfold inA; omega) (nA 337 (by decide +kernel) _) (or32 (ld h1 337 0) (shl32 1 p))
      have r2 : RK (st h1 337 0 (or32 (ld h1 337 0) (shl32 1 p))) 0 z.T (up1 z.S 4 (or32 (z.S 4 0) (shl32 1 p))) := RK_up k1 f2 ((sR_u4 _).trans (by rw [k1.2.2.1, eF])) (I32_u1 k1.2.2.2 (or32_I _ _))
      have w2 := r2.w
      obtain ⟨h3, a3, f3, r3, iv3⟩ := rk_203 r2 (IV_4 c.iv _) hp h8 (d + 1)
      have fA := FrA_tr f2 f3
      have w3 := r3.w
      have e8 := rs8 r3 hp
      rw [show (10 : Int) * 0 + p = p by omega] at e8
      refine ⟨h3, ?_, RR_gen c1 w3 (fun y j e1 e2 => fA.2.2 y j (by unfold rz at e1; omega) (by unfold rz at e1; omega) (by unfold rz at e1; omega) e2) r3 iv3 (sStroke_0 _ _ _ _) ⟨Int.le_refl _, c.nb.2⟩, FrM_tr f0 (FrM_tr f1 (FrM_A fA))⟩
      rw [e0, e226_47, if_pos (F_a311 w0), Cl_eq _ a1, if_pos (F_a311 w1), P_311_40 w1, if_pos (F_a337 w1), L_a337 w1, if_pos (by decide), if_pos (W_a337 w1), if_pos (by decide), e226_63, if_pos (F_a311 w2), Cl_eq _ a3, if_pos (F_a311 w3), P_311_43 w3, if_pos (F_a340 w3), L_a340 w3, if_pos (by omega), e8]
      rfl
end DI
