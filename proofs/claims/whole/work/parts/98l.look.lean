/-! layer 2: the plain program: looks, pieces, laws, days -/
theorem or32_00 {a : Int} (h : I32 a) : or32 a 0 = a := by
  unfold or32
  have e : Int32.ofInt a ||| Int32.ofInt 0 = Int32.ofInt a := by
    apply Int32.toBitVec_inj.mp
    simp [Int32.toBitVec_or]
  rw [e, Int32.toInt_ofInt]
  unfold I32 at h
  show Int.bmod a 4294967296 = a
  rw [Int.bmod_def]
  split <;> omega
theorem or32_bI (b c : Bool) : or32 (bI b) (bI c) = bI (b || c) := by cases b <;> cases c <;> decide
section LO
variable {h h' : Hp} {z : Zt} {n : Int} {T S : Wd}
theorem kin_loop (r : RK h 0 T S) {x set p : Int} (hp : 0 ≤ p ∧ p < T 2 0) (d : Nat) : ∀ (m : Nat) (k : Int) (b : Bool), 0 ≤ k → k + m = T 3 0 → V d 205 46 [(2, 311), (0, x), (0, set), (0, p), (0, bI b), (0, k)] [] h = V d 205 146 [(2, 311), (0, x), (0, set), (0, p), (0, bI (b || anyf (fun k => decide (T 17 k = T 13 p) && ((decide (T 15 k = T 12 p) && decide (T 16 k = x)) || (decide (T 15 k = x) && decide (T 16 k = T 12 p)))) m k)), (9, 0)] [] h := by
  have w := r.w
  have t3 := r.K.2.2.2.1
  obtain ⟨p1, p2, p3, p4, p5, p6⟩ := pieT r.K hp
  intro m
  induction m with
  | zero =>
    intro k b k0 hk
    rw [e205_46, if_pos (F_a311 w), P_311_3 w, if_pos (F_a313 w), L_a313 w, if_pos (by decide), rt3 r.1, if_neg (by omega)]
    unfold anyf
    rw [Bool.or_false]
  | succ m ih =>
    intro k b k0 hk
    have hk3 : 0 ≤ k ∧ k < T 3 0 := ⟨k0, by omega⟩
    have wk1 : w32 (k + 1) = k + 1 := by unfold w32; omega
    have e46 : V d 205 46 [(2, 311), (0, x), (0, set), (0, p), (0, bI b), (0, k)] [] h = if T 17 k = T 13 p then V d 205 76 [(2, 311), (0, x), (0, set), (0, p), (0, bI b), (0, k)] [] h else V d 205 73 [(2, 311), (0, x), (0, set), (0, p), (0, bI b), (0, k)] [] h := by
      rw [e205_46, if_pos (F_a311 w), P_311_3 w, if_pos (F_a313 w), L_a313 w, if_pos (by decide), rt3 r.1, if_pos hk3.2, e205_57, if_pos (F_a311 w), P_311_17 w, if_pos (F_a327 w), L_a327 w, if_pos (by omega), if_pos (F_a311 w), P_311_13 w, if_pos (F_a323 w), L_a323 w, if_pos (by omega), rt17 r.1 hk3, rt13 r.1 hp]
    rw [e46]
    unfold anyf
    by_cases q : T 17 k = T 13 p
    · rw [if_pos q, decide_eq_true q, Bool.true_and]
      have e132 : ∀ c : Bool, V d 205 (if c = true then 132 else 136) [(2, 311), (0, x), (0, set), (0, p), (9, 0), (0, k)] [(0, bI b)] h = V d 205 46 [(2, 311), (0, x), (0, set), (0, p), (0, bI (b || c)), (0, k + 1)] [] h := fun c => by
        cases c with
        | true => rw [if_pos rfl, e205_132, e205_137, show or32 (bI b) 1 = bI (b || true) from or32_bI b true, e205_140, wk1]
        | false => rw [if_neg (by decide), e205_136, e205_137, show or32 (bI b) 0 = bI (b || false) from or32_bI b false, e205_140, wk1]
      have e105 : V d 205 105 [(2, 311), (0, x), (0, set), (0, p), (9, 0), (0, k)] [(0, bI b)] h = V d 205 (if (decide (T 16 k = x) && decide (T 15 k = T 12 p)) = true then 132 else 136) [(2, 311), (0, x), (0, set), (0, p), (9, 0), (0, k)] [(0, bI b)] h := by
        rw [e205_105, if_pos (F_a311 w), P_311_16 w, if_pos (F_a326 w), L_a326 w, if_pos (by omega), rt16 r.1 hk3]
        by_cases z1 : T 16 k = x
        · rw [if_pos z1, if_pos (F_a311 w), P_311_15 w, if_pos (F_a325 w), L_a325 w, if_pos (by omega), rt15 r.1 hk3, if_pos (F_a311 w), P_311_12 w, if_pos (F_a322 w), L_a322 w, if_pos (by omega), rt12 r.1 hp, e205_129, decide_eq_true z1, Bool.true_and]
          by_cases z2 : T 15 k = T 12 p
          · rw [if_pos z2, decide_eq_true z2, if_pos rfl]
          · rw [if_neg z2, decide_eq_false z2, if_neg (by decide)]
        · rw [if_neg z1, decide_eq_false z1, Bool.false_and, if_neg (by decide)]
      have e76 : V d 205 76 [(2, 311), (0, x), (0, set), (0, p), (0, bI b), (0, k)] [] h = V d 205 (if ((decide (T 15 k = T 12 p) && decide (T 16 k = x)) || (decide (T 15 k = x) && decide (T 16 k = T 12 p))) = true then 132 else 136) [(2, 311), (0, x), (0, set), (0, p), (9, 0), (0, k)] [(0, bI b)] h := by
        rw [e205_76, if_pos (F_a311 w), P_311_15 w, if_pos (F_a325 w), L_a325 w, if_pos (by omega), rt15 r.1 hk3]
        by_cases z1 : T 15 k = x
        · rw [if_pos z1, if_pos (F_a311 w), P_311_16 w, if_pos (F_a326 w), L_a326 w, if_pos (by omega), rt16 r.1 hk3, if_pos (F_a311 w), P_311_12 w, if_pos (F_a322 w), L_a322 w, if_pos (by omega), rt12 r.1 hp, e205_102, decide_eq_true z1]
          by_cases z2 : T 16 k = T 12 p
          · rw [if_pos z2, decide_eq_true z2, Bool.true_and, Bool.or_true, if_pos rfl]
          · rw [if_neg z2, e105, decide_eq_false z2, Bool.and_false, Bool.or_false, Bool.and_comm]
        · rw [if_neg z1, e105, decide_eq_false z1, Bool.false_and, Bool.or_false, Bool.and_comm]
      rw [e76, e132, ih (k + 1) _ (by omega) (by omega), Bool.or_assoc]
    · rw [if_neg q, decide_eq_false q, Bool.false_and, Bool.false_or, e205_73, e205_140, wk1]
      exact ih (k + 1) b (by omega) (by omega)
theorem rk_205 (r : RK h 0 T S) (iv : IV n T S) (x : Int) (d : Nat) : C (d + 1) 205 [(2, 311), (0, x)] h = some ((0, sFace T S x), h) := by
  have w := r.w
  have t2 := r.K.2.2.1
  have t3 := r.K.2.2.2.1
  have key : ∀ (m : Nat) (k a : Int), I32 a → 0 ≤ k → k + m = T 2 0 → V (d + 1) 205 4 [(2, 311), (0, x), (0, a), (0, k), (9, 0), (9, 0)] [] h = some ((0, fld (fun k a => if qDone T S k && (decide (T 12 k = x) || tShr T (T 12 k) x (T 13 k)) then or32 a (shl32 1 (T 13 k)) else a) m k a), h) := by
    intro m
    induction m with
    | zero =>
      intro k a ha k0 hk
      rw [e205_4, if_pos (F_a311 w), P_311_3 w, if_pos (F_a313 w), L_a313 w, if_pos (by decide), rt2 r.1, if_neg (by omega), e205_172]
      rfl
    | succ m ih =>
      intro k a ha k0 hk
      have hp : 0 ≤ k ∧ k < T 2 0 := ⟨k0, by omega⟩
      obtain ⟨p1, p2, p3, p4, p5, p6⟩ := pieT r.K hp
      have wk1 : w32 (k + 1) = k + 1 := by unfold w32; omega
      unfold fld
      rw [e205_4, if_pos (F_a311 w), P_311_3 w, if_pos (F_a313 w), L_a313 w, if_pos (by decide), rt2 r.1, if_pos hp.2, e205_14, if_pos (F_a311 w), Cl_eq _ (rk_185 r hp d), qFull_D iv hp]
      cases qDone T S k with
      | false =>
        rw [if_pos bI_f, e205_23, e205_166, wk1, Bool.false_and]
        simp only [Bool.false_eq_true, if_false]
        exact ih (k + 1) a ha (by omega) (by omega)
      | true =>
        have e26 : V (d + 1) 205 26 [(2, 311), (0, x), (0, a), (0, k), (9, 0), (9, 0)] [] h = V (d + 1) 205 46 [(2, 311), (0, x), (0, a), (0, k), (0, bI (decide (T 12 k = x))), (0, 0)] [] h := by
          rw [e205_26, if_pos (F_a311 w), P_311_12 w, if_pos (F_a322 w), L_a322 w, if_pos (by omega), rt12 r.1 hp]
          by_cases z : T 12 k = x
          · rw [if_pos z, e205_36, e205_41, decide_eq_true z]; rfl
          · rw [if_neg z, e205_40, e205_41, decide_eq_false z]; rfl
        rw [if_neg (by decide), e26, kin_loop r hp (d + 1) (T 3 0).toNat 0 _ (by decide) (by omega), e205_146, Bool.true_and]
        show (if bI (decide (T 12 k = x) || tShr T (T 12 k) x (T 13 k)) = 0 then _ else _) = _
        cases decide (T 12 k = x) || tShr T (T 12 k) x (T 13 k) with
        | false =>
          rw [if_pos bI_f, e205_163, e205_164, or32_00 ha, e205_166, wk1]
          simp only [Bool.false_eq_true, if_false]
          exact ih (k + 1) a ha (by omega) (by omega)
        | true =>
          rw [if_neg (by decide), if_pos (F_a311 w), P_311_13 w, if_pos (F_a323 w), L_a323 w, if_pos (by omega), rt13 r.1 hp, e205_164, e205_166, wk1]
          simp only [if_true]
          exact ih (k + 1) _ (or32_I _ _) (by omega) (by omega)
  rw [ce_205, e205_0]
  exact key (T 2 0).toNat 0 0 (I32_of (by decide)) (by decide) (by omega)
def lkC (s x : Int) (z : Zt) : Int := if qSit z.T s = false then 1 else if x < 0 ∨ 5 < x then 2 else 0
theorem rk_206 (c : RR n h z) (s x : Int) (d : Nat) : ∃ h', C (d + 2) 206 [(2, 311), (0, s), (0, x)] h = some ((0, if lkC s x z = 0 then zLook s x z else 0), h') ∧ RR n h' z ∧ FrM h h' ∧ ld h' 311 0 = lkC s x z := by
  have w := c.k.w
  obtain ⟨c0, f0⟩ := RR_0 c (lkC s x z)
  have w0 := c0.k.w
  have g0 : ld (st h 311 0 (lkC s x z)) 311 0 = lkC s x z := ld_st_eq _ _ _ _
  refine ⟨_, ?_, c0, f0, g0⟩
  have e27 : C (d + 2) 206 [(2, 311), (0, s), (0, x)] h = V (d + 2) 206 27 [(2, 311), (0, s), (0, x)] [(0, lkC s x z), (2, 311)] h := by
    unfold lkC
    rw [ce_206, e206_0, if_pos (F_a311 w), Cl_eq _ (rk_180 c.k.1 s (d + 1))]
    cases qSit z.T s with
    | false => rw [if_pos bI_f, if_pos rfl]
    | true =>
      rw [if_neg (by decide), if_neg (by decide), e206_13]
      by_cases q1 : x < 0
      · rw [if_pos q1, e206_22, if_pos (Or.inl q1)]
      · by_cases q2 : 5 < x
        · rw [if_neg q1, if_pos q2, e206_22, if_pos (Or.inr q2)]
        · rw [if_neg q1, if_neg q2, e206_26, if_neg (by omega)]
  rw [e27, e206_27, if_pos (W_a311 w), if_pos (F_a311 w0), g0]
  by_cases q : lkC s x z = 0
  · rw [if_pos q, if_pos q, e206_39, if_pos (F_a311 w0), Cl_eq _ (RR_plain c0 (d + 1))]
    have hs : qSit z.T s = true := by
      unfold lkC at q
      cases hq : qSit z.T s with
      | true => rfl
      | false => rw [hq, if_pos rfl] at q; cases q
    have hx : 0 ≤ x ∧ x ≤ 5 := by
      unfold lkC at q
      rw [hs, if_neg (by decide)] at q
      by_cases y : x < 0 ∨ 5 < x
      · rw [if_pos y] at q; cases q
      · omega
    have hr := qSit_iff.mp hs
    have t1 := c.k.K.2.1
    unfold zLook
    rw [if_neg (show ¬ qSit z.T s = false by rw [hs]; decide)]
    by_cases x0 : x = 0
    · have := rs6 c0.k hr
      rw [show (5 : Int) * 0 + s = s by omega] at this
      rw [if_pos x0, if_pos x0, e206_80, if_pos (F_a311 w0), P_311_41 w0, if_pos (F_a338 w0), L_a338 w0, if_pos (by omega), this]
    rw [if_neg x0, if_neg x0]
    by_cases x1 : x = 1
    · rw [if_pos x1, if_pos x1, e206_87, if_pos (F_a311 w0), Cl_eq _ (rk_183 c0.k s (d + 1))]
      cases qLiv z.S s with
      | false => rw [if_pos bI_f, e206_100, e206_101]; rfl
      | true => rw [if_neg (by decide), e206_96, e206_101]; rfl
    rw [if_neg x1, if_neg x1]
    by_cases x2 : x = 2
    · rw [if_pos x2, if_pos x2, e206_102, if_pos (F_a311 w0), Cl_eq _ (rk_205 c0.k c.iv s d)]
    rw [if_neg x2, if_neg x2]
    by_cases x3 : x = 3
    · rw [if_pos x3, if_pos x3, e206_108, if_pos (F_a311 w0), Cl_eq _ (rk_186 c0.k s (d + 1))]
    rw [if_neg x3, if_neg x3]
    by_cases x4 : x = 4
    · rw [if_pos x4, if_pos x4, e206_115, if_pos (F_a311 w0), P_311_10 w0, if_pos (F_a320 w0), L_a320 w0, if_pos (by omega), rt10 c0.k.1 hr]
    · rw [if_neg x4, if_neg x4, e206_122, if_pos (F_a311 w0), P_311_11 w0, if_pos (F_a321 w0), L_a321 w0, if_pos (by omega), rt11 c0.k.1 hr, if_pos (by omega)]
  · rw [if_neg q, if_neg q]
theorem rk_207 (c : RR n h z) (p x : Int) (d : Nat) : OPr n h z (d + 8) 207 [(2, 311), (0, p), (0, x)] 0 (zPiece p x z) n z := by
  have w := c.k.w
  obtain ⟨c0, f0⟩ := RR_0 c 0
  have w0 := c0.k.w
  have hT := c.k.K
  have e0 : C (d + 8) 207 [(2, 311), (0, p), (0, x)] h = if bI (qPie z.T p) = 0 then some ((0, -1), st h 311 0 0) else V (d + 8) 207 15 [(2, 311), (0, p), (0, x)] [] (st h 311 0 0) := by
    rw [ce_207, e207_0, if_pos (W_a311 w), if_pos (F_a311 w0), Cl_eq _ (rk_182 c0.k.1 p (d + 7)), e207_13]
  unfold zPiece
  have rf : ∀ r, C (d + 8) 207 [(2, 311), (0, p), (0, x)] h = some ((0, r), st h 311 0 0) → OPr n h z (d + 8) 207 [(2, 311), (0, p), (0, x)] 0 r n z := fun r e => ⟨_, e, c0, f0⟩
  generalize st h 311 0 0 = h0 at *
  cases hq : qPie z.T p with
  | false => rw [if_pos rfl]; exact rf _ (by rw [e0, hq, if_pos bI_f])
  | true =>
    have hp := qPie_iff.mp hq
    obtain ⟨p1, p2, p3, p4, p5, p6⟩ := pieT hT hp
    rw [hq, if_neg (by decide), e207_15, if_pos (F_a311 w0), Cl_eq _ (RR_plain c0 (d + 7))] at e0
    rw [if_neg (by decide)]
    have i10 : (10 : Int) * 0 + p = p := by omega
    by_cases x0 : x = 0
    · rw [if_pos x0] at e0 ⊢
      exact rf _ (by rw [e0, e207_68, if_pos (F_a311 w0), P_311_12 w0, if_pos (F_a322 w0), L_a322 w0, if_pos (by omega), rt12 c0.k.1 hp])
    rw [if_neg x0] at e0 ⊢
    by_cases x1 : x = 1
    · rw [if_pos x1] at e0 ⊢
      exact rf _ (by rw [e0, e207_75, if_pos (F_a311 w0), P_311_13 w0, if_pos (F_a323 w0), L_a323 w0, if_pos (by omega), rt13 c0.k.1 hp])
    rw [if_neg x1] at e0 ⊢
    by_cases x2 : x = 2
    · rw [if_pos x2] at e0 ⊢
      exact rf _ (by rw [e0, e207_82, if_pos (F_a311 w0), P_311_14 w0, if_pos (F_a324 w0), L_a324 w0, if_pos (by omega), rt14 c0.k.1 hp])
    rw [if_neg x2] at e0 ⊢
    by_cases x3 : x = 3
    · have := rs7 c0.k hp
      rw [i10] at this
      rw [if_pos x3] at e0 ⊢
      exact rf _ (by rw [e0, e207_89, if_pos (F_a311 w0), P_311_42 w0, if_pos (F_a339 w0), L_a339 w0, if_pos (by omega), this])
    rw [if_neg x3] at e0 ⊢
    by_cases x4 : x = 4
    · have := rs8 c0.k hp
      rw [i10] at this
      rw [if_pos x4] at e0 ⊢
      exact rf _ (by rw [e0, e207_96, if_pos (F_a311 w0), P_311_43 w0, if_pos (F_a340 w0), L_a340 w0, if_pos (by omega), this])
    rw [if_neg x4] at e0 ⊢
    by_cases x5 : x = 5
    · obtain ⟨h1, a1, f1⟩ := rk_195 c0.k c.tx.1 hp (d + 2)
      rw [if_pos x5] at e0 ⊢
      exact ⟨h1, by rw [e0, e207_103, if_pos (F_a311 w0), Cl_eq _ a1], RR_W c0 f1, FrM_tr f0 (FrM_W f1)⟩
    rw [if_neg x5] at e0 ⊢
    by_cases x6 : x = 6
    · rw [if_pos x6] at e0 ⊢
      unfold sStand
      have e110 : V (d + 8) 207 110 [(2, 311), (0, p), (9, 0)] [] h0 = if bI (qLap z.S p) = 0 then V (d + 8) 207 123 [(2, 311), (0, p), (9, 0)] [] h0 else some ((0, 3), h0) := by
        rw [e207_110, if_pos (F_a311 w0), Cl_eq _ (rk_184 c0.k p (d + 7)), e207_119, e207_150]
      rw [e110] at e0
      cases hl : qLap z.S p with
      | true =>
        rw [hl, if_neg (by decide)] at e0
        rw [if_pos rfl]; exact rf _ e0
      | false =>
        rw [hl, if_pos bI_f, e207_123, if_pos (F_a311 w0), Cl_eq _ (rk_185 c0.k hp (d + 7)), qFull_D c.iv hp, e207_132, e207_150] at e0
        rw [if_neg (by decide)]
        cases hD : qDone z.T z.S p with
        | true =>
          rw [hD, if_neg (by decide)] at e0
          rw [if_pos rfl]; exact rf _ e0
        | false =>
          obtain ⟨h1, a1, f1⟩ := rk_196 c0.k c.tx.1 hp (d + 1)
          rw [c0.t53, decide_eq_false (by decide), Bool.false_or] at a1
          rw [hD, if_pos bI_f, e207_136, if_pos (F_a311 w0), Cl_eq _ a1] at e0
          rw [if_neg (by decide)]
          refine ⟨h1, ?_, RR_W c0 f1, FrM_tr f0 (FrM_W f1)⟩
          rw [e0]
          cases qPaid z.T z.S p with
          | false => rw [if_pos bI_f, e207_149, e207_150]; rfl
          | true => rw [if_neg (by decide), e207_145, e207_150]; rfl
    rw [if_neg x6] at e0 ⊢
    by_cases x7 : x = 7
    · have := rs9 c0.k hp
      rw [i10] at this
      rw [if_pos x7] at e0 ⊢
      exact rf _ (by rw [e0, e207_151, if_pos (F_a311 w0), P_311_44 w0, if_pos (F_a341 w0), L_a341 w0, if_pos (by omega), this])
    · rw [if_neg x7] at e0 ⊢
      exact rf _ (by rw [e0, e207_158])
theorem rk_208 (c : RR n h z) (x p s : Int) (d : Nat) : OPr n h z (d + 5) 208 [(2, 311), (0, x), (0, p), (0, s)] 1 (zLaw x p s z) n z := by
  have w := c.k.w
  obtain ⟨c0, f0⟩ := RR_0 c 0
  have w0 := c0.k.w
  have hT := c.k.K
  have e0 : C (d + 5) 208 [(2, 311), (0, x), (0, p), (0, s)] h = if x < 0 then some ((1, MINV), st h 311 0 0) else if 2 < x then some ((1, MINV), st h 311 0 0) else if bI (qPie z.T p) = 0 then some ((1, MINV), st h 311 0 0) else V (d + 5) 208 22 [(2, 311), (0, x), (0, p), (0, s)] [] (st h 311 0 0) := by
    have e43 : V (d + 5) 208 43 [(9, 0), (9, 0), (9, 0), (9, 0)] [] (st h 311 0 0) = some ((1, MINV), st h 311 0 0) := by rw [e208_43]; rfl
    rw [ce_208, e208_0, if_pos (W_a311 w), e43, e208_9, e43, if_pos (F_a311 w0), Cl_eq _ (rk_182 c0.k.1 p (d + 4)), e43]
  have rf : ∀ r, C (d + 5) 208 [(2, 311), (0, x), (0, p), (0, s)] h = some ((1, r), st h 311 0 0) → OPr n h z (d + 5) 208 [(2, 311), (0, x), (0, p), (0, s)] 1 r n z := fun r e => ⟨_, e, c0, f0⟩
  generalize st h 311 0 0 = h0 at *
  have e43 : V (d + 5) 208 43 [(9, 0), (9, 0), (9, 0), (9, 0)] [] h0 = some ((1, MINV), h0) := by rw [e208_43]; rfl
  unfold zLaw
  by_cases q0 : x < 0
  · rw [if_pos (Or.inl q0)]; exact rf _ (by rw [e0, if_pos q0])
  by_cases q1 : 2 < x
  · rw [if_pos (Or.inr (Or.inl (by omega)))]; exact rf _ (by rw [e0, if_neg q0, if_pos q1])
  rw [if_neg q0, if_neg q1] at e0
  cases hq : qPie z.T p with
  | false => rw [if_pos (by simp)]; exact rf _ (by rw [e0, hq, if_pos bI_f])
  | true =>
    rw [hq, if_neg (by decide)] at e0
    rw [if_neg (by simp; omega)]
    have hp := qPie_iff.mp hq
    obtain ⟨p1, p2, p3, p4, p5, p6⟩ := pieT hT hp
    have hx : ((x.toNat : Nat) : Int) = x := by omega
    by_cases y : x = 2 ∧ qSit z.T s = false
    · rw [if_pos y]
      exact rf _ (by rw [e0, e208_22, if_pos y.1, if_pos (F_a311 w0), Cl_eq _ (rk_180 c0.k.1 s (d + 4)), y.2, if_pos bI_f, e43])
    · rw [if_neg y]
      have e35 : V (d + 5) 208 22 [(2, 311), (0, x), (0, p), (0, s)] [] h0 = V (d + 5) 208 35 [(2, 311), (0, x), (0, p), (0, s)] [] h0 := by
        rw [e208_22]
        by_cases u : x = 2
        · rw [if_pos u, if_pos (F_a311 w0), Cl_eq _ (rk_180 c0.k.1 s (d + 4))]
          cases hs : qSit z.T s with
          | false => exact absurd ⟨u, hs⟩ y
          | true => rw [if_neg (by decide)]
        · rw [if_neg u]
      have ho : 0 ≤ (if x = 2 then s else z.T 12 p) ∧ (if x = 2 then s else z.T 12 p) < z.T 1 0 := by
        split
        · rename_i u
          cases v : qSit z.T s with
          | false => exact absurd ⟨u, v⟩ y
          | true => exact qSit_iff.mp v
        · exact p2
      have e192 := rk_192 c0.k.1 (k := x.toNat) (by omega) (d + 4)
      rw [hx] at e192
      rw [e35, e208_35, if_pos (F_a311 w0), Cl_eq _ e192] at e0
      by_cases hl : 0 < z.T (19 + x.toNat) 0
      · rw [decide_eq_true hl, if_neg (by decide)] at e0
        obtain ⟨q, h1, a1, f1, l1⟩ := rk_193 c0.k c.tx.1 (k := x.toNat) (by omega) hl hp ho d
        rw [hx] at a1
        have w1 := f1.1
        refine ⟨h1, ?_, RR_W c0 f1, FrM_tr f0 (FrM_W f1)⟩
        have e66 : V (d + 5) 208 47 [(2, 311), (0, x), (0, p), (0, s)] [] h0 = V (d + 5) 208 66 [(2, 311), (9, 0), (9, 0), (9, 0)] [(0, if x = 2 then s else z.T 12 p), (0, p), (0, 0), (0, x), (2, 311)] h0 := by
          rw [e208_47]
          by_cases u : x = 2
          · rw [if_pos u, if_pos u]
          · rw [if_neg u, if_neg u, e208_60, if_pos (F_a311 w0), P_311_12 w0, if_pos (F_a322 w0), L_a322 w0, if_pos (by omega), rt12 c0.k.1 hp]
        rw [e0, e66, e208_66, if_pos (F_a311 w0), Cl_eq _ a1]
        cases hv : lwV z.T z.S x.toNat p (if x = 2 then s else z.T 12 p) with
        | none =>
          rw [hv] at l1
          have l1 : q = 0 := l1
          rw [if_pos l1, e208_81, e208_84]; rfl
        | some v =>
          rw [hv] at l1
          obtain ⟨g1, g2, g3⟩ := l1
          rw [if_neg (by omega), if_pos (F_a311 w1), P_311_56 w1, if_pos (F_a349 w1), L_a349 w1, if_pos (by decide), g2, e208_84]; rfl
      · rw [decide_eq_false hl, if_pos bI_f, e43] at e0
        rw [lwV_0 hl]
        exact rf _ e0
end LO
