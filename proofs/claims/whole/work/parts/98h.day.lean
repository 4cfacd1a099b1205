/-! layer 2: the plain program: a day -/
section RD
variable {h h' : Hp} {a n : Int} {T S : Wd}
theorem RK_11 (r : RK h a T S) (i : Int) : S 1 i = S 1 0 := by rw [← r.2.2.1]; rfl
theorem pay_loop (tx : TX T) (hn : n ≤ 600) {skip what who : Int} (hk : skip = if what = 1 then who else -1) (d : Nat) : ∀ (m : Nat) (k tot : Int) (S : Wd) (h : Hp), RK h a T S → IV n T S → ld h 311 53 = what → ld h 311 54 = who → 0 ≤ k → k + m = T 1 0 → ∃ h', V (d + 7) 200 4 [(2, 311), (0, a), (0, tot), (0, k), (9, 0), (9, 0), (9, 0), (9, 0)] [] h = V (d + 7) 200 234 [(2, 311), (0, a), (0, (if what = 4 then (S, tot) else fldP (payK T skip) m k (S, tot)).2), (9, 0), (9, 0), (9, 0), (9, 0), (9, 0)] [] h' ∧ FrA a h h' ∧ RK h' a T (if what = 4 then (S, tot) else fldP (payK T skip) m k (S, tot)).1 ∧ IV n T (if what = 4 then (S, tot) else fldP (payK T skip) m k (S, tot)).1 := by
  intro m
  induction m with
  | zero =>
    intro k tot S h r iv e53 e54 k0 hk2
    have w := r.w
    have e : (if what = 4 then (S, tot) else fldP (payK T skip) 0 k (S, tot)) = (S, tot) := by split <;> rfl
    rw [e]
    refine ⟨h, ?_, FrA_rf w, r, iv⟩
    rw [e200_4, if_pos (F_a311 w), P_311_3 w, if_pos (F_a313 w), L_a313 w, if_pos (by decide), rt1 r.1, if_neg (by omega)]
  | succ m ih =>
    intro k tot S h r iv e53 e54 k0 hk2
    obtain ⟨h1, a1, f1, r1, iv1⟩ := pay_step (n := n) r tx iv hn (skip := skip) (by rw [e53, e54]; exact hk) (tot := tot) (k := k) ⟨k0, by omega⟩ d
    rw [e53] at a1 r1 iv1
    obtain ⟨h', a2, f2, r2, iv2⟩ := ih (k + 1) _ _ h1 r1 iv1 ((f1.2.2 311 53 (by decide) (by decide) (by decide) (by unfold inA; omega)).trans e53) ((f1.2.2 311 54 (by decide) (by decide) (by decide) (by unfold inA; omega)).trans e54) (by omega) (by omega)
    have e : (if what = 4 then ((if what = 4 then (S, tot) else payK T skip k (S, tot)).1, (if what = 4 then (S, tot) else payK T skip k (S, tot)).2) else fldP (payK T skip) m (k + 1) ((if what = 4 then (S, tot) else payK T skip k (S, tot)).1, (if what = 4 then (S, tot) else payK T skip k (S, tot)).2)) = (if what = 4 then (S, tot) else fldP (payK T skip) (m + 1) k (S, tot)) := by
      by_cases y : what = 4
      · simp only [if_pos y]
      · simp only [if_neg y]; rfl
    rw [e] at a2 r2 iv2
    exact ⟨h', a1.trans a2, FrA_tr f1 f2, r2, iv2⟩
theorem IV_u1 (iv : IV n T S) (v : Int) : IV n T (up1 S 1 v) := iv
theorem rk_200 (r : RK h a T S) (tx : TX T) (iv : IV n T S) (hn : n ≤ 600) (d : Nat) : ∃ h', C (d + 7) 200 [(2, 311), (0, a)] h = some ((0, (dayPay T S (ld h 311 53) (ld h 311 54)).2), h') ∧ FrA a h h' ∧ RK h' a T (dayPay T S (ld h 311 53) (ld h 311 54)).1 ∧ IV n T (dayPay T S (ld h 311 53) (ld h 311 54)).1 := by
  have t1 := r.K.2.1
  obtain ⟨h1, a1, f1, r1, iv1⟩ := pay_loop tx hn (skip := if ld h 311 53 = 1 then ld h 311 54 else -1) rfl d (T 1 0).toNat 0 0 S h r iv rfl rfl (by decide) (by omega)
  have w1 := r1.w
  have ra := r.2.1
  generalize hR : (if ld h 311 53 = 4 then (S, (0 : Int)) else fldP (payK T (if ld h 311 53 = 1 then ld h 311 54 else -1)) (T 1 0).toNat 0 (S, 0)) = R at *
  obtain ⟨r2, f2⟩ := rk_u1 r1 (v := w32 (R.1 1 0 + R.2)) (w32_I _)
  have eD : dayPay T S (ld h 311 53) (ld h 311 54) = (up1 R.1 1 (w32 (R.1 1 0 + R.2)), R.2) := by
    unfold dayPay sPay
    by_cases y : ld h 311 53 = 4
    · rw [if_pos y] at hR ⊢
      rw [← hR]
      have hI := r.2.2.2 1 0
      have : up1 S 1 (w32 (S 1 0 + 0)) = S := by
        funext f i
        unfold up1
        split
        · rename_i z; rw [z, RK_11 r i]; unfold I32 at hI; unfold w32; omega
        · rfl
      show (S, 0) = (up1 S 1 (w32 (S 1 0 + 0)), 0)
      rw [this]
    · rw [if_neg y] at hR ⊢
      rw [← hR]
  rw [eD]
  refine ⟨_, ?_, FrA_tr f1 f2, r2, IV_u1 iv1 _⟩
  rw [ce_200, e200_0, a1, e200_234, if_pos (F_a311 w1), P_311_37 w1, if_pos (F_a334 w1), L_a334 w1, if_pos ra, if_pos (W_a334 w1), if_pos ra, rs1 r1, e200_244]
theorem any_f (f : Int → Bool) : ∀ (m : Nat) (k : Nat), anyf f m (k : Int) = (List.range' k m).any (fun j => f (j : Int))
  | 0, _ => rfl
  | m + 1, k => by
    unfold anyf
    rw [List.range'_succ, List.any_cons, show ((k : Int) + 1) = ((k + 1 : Nat) : Int) by omega, any_f f m (k + 1)]
theorem rk_201 (r : RT h T) {x : Int} (hx : 0 ≤ x ∧ x < 100) (d : Nat) : C d 201 [(2, 311), (0, x)] h = some ((0, bI (!decide (ld h 311 53 = 0) && qHail T x)), h) := by
  have w := r.w
  have hb := r.2.2.2.2.2
  have e18 : T 18 x = bI (hailAt h x) := (congrFun (congrFun r.2.1 18) x).symm.trans (rng_in hx)
  have eq : qHail T x = hailAt h x := by
    unfold qHail
    rw [e18, decide_eq_false (by omega), decide_eq_true hx.2]
    cases hailAt h x <;> rfl
  have eh : hailAt h x = anyf (fun k => decide (ld h 328 k = x)) (ld h 313 5).toNat 0 := by
    have := any_f (fun k => decide (ld h 328 k = x)) (ld h 313 5).toNat 0
    rw [show ((0 : Nat) : Int) = 0 from rfl] at this
    rw [this]
    unfold hailAt
    rw [List.range_eq_range']
    rfl
  rw [ce_201, e201_0, if_pos (F_a311 w)]
  by_cases q : ld h 311 53 = 0
  · rw [if_pos q, if_pos (by decide), decide_eq_true q]; rfl
  · rw [if_neg q, decide_eq_false q, e201_9, eq, eh]
    show _ = some ((0, bI (anyf (fun k => decide (ld h 328 k = x)) (ld h 313 5).toNat 0)), h)
    refine lpA (N := ld h 313 5) (G := fun k => V d 201 11 [(2, 311), (0, x), (0, k)] [] h) hb.1 ?_ (fun k k0 k1 => ?_)
    · show V d 201 11 _ _ _ = _
      rw [e201_11, if_pos (F_a311 w), P_311_3 w, if_pos (F_a313 w), L_a313 w, if_pos (by decide), if_neg (by omega), e201_39, if_pos (by decide)]
    · show V d 201 11 _ _ _ = (if _ then _ else V d 201 11 _ _ _)
      rw [e201_11, if_pos (F_a311 w), P_311_3 w, if_pos (F_a313 w), L_a313 w, if_pos (by decide), if_pos k1, e201_21, if_pos (F_a311 w), P_311_18 w, if_pos (F_a328 w), L_a328 w, if_pos (by omega)]
      by_cases z : ld h 328 k = x
      · rw [if_pos z, e201_31, if_pos (by decide), if_pos (decide_eq_true z)]
      · rw [if_neg z, e201_33, if_neg (by simp [z]), show w32 (k + 1) = k + 1 by unfold w32; omega]
theorem sCan_r (iv : IV n T S) {p : Int} (hp : 0 ≤ p ∧ p < T 2 0) (what who : Int) : sCan T S p what who = (rCan T S (decide (what = 4)) p && !(decide (what = 2) && decide (T 13 p = who))) := by
  unfold sCan rCan qOpen
  rw [qFull_D iv hp]
  cases qLap S p <;> cases qDone T S p <;> cases qLiv S (T 12 p) <;> cases decide (what = 4) <;> cases qPaid T S p <;> cases decide (what = 2) <;> cases decide (T 13 p = who) <;> rfl
theorem rk_202 (r : RK h a T S) (tx : TX T) (iv : IV n T S) (d : Nat) : ∃ h', C (d + 8) 202 [(2, 311), (0, a)] h = some ((0, sChoose T S (ld h 311 53) (ld h 311 54)), h') ∧ FrW h h' := by
  have t2 := r.K.2.2.1
  generalize hw : ld h 311 53 = what at *
  generalize hh : ld h 311 54 = who at *
  have key : ∀ (m : Nat) (k b v : Int) (h1 : Hp), FrW h h1 → 0 ≤ k → k + m = T 2 0 → ∃ h', V (d + 8) 202 7 [(2, 311), (0, a), (0, b), (1, v), (9, 0), (0, k), (9, 0), (9, 0)] [] h1 = some ((0, cho T S what who m k b v), h') ∧ FrW h h' := by
    intro m
    induction m with
    | zero =>
      intro k b v h1 f k0 hk
      have r1 := RK_W r f
      have w := r1.w
      refine ⟨h1, ?_, f⟩
      rw [e202_7, if_pos (F_a311 w), P_311_3 w, if_pos (F_a313 w), L_a313 w, if_pos (by decide), rt2 r1.1, if_neg (by omega), e202_95]
      rfl
    | succ m ih =>
      intro k b v h1 f k0 hk
      have r1 := RK_W r f
      have w := r1.w
      have hp : 0 ≤ k ∧ k < T 2 0 := ⟨k0, by omega⟩
      have g53 : ∀ h2, FrW h h2 → ld h2 311 53 = what := fun h2 f => (f.2.2 311 53 (by decide) (by decide) (by decide)).trans hw
      have g54 : ∀ h2, FrW h h2 → ld h2 311 54 = who := fun h2 f => (f.2.2 311 54 (by decide) (by decide) (by decide)).trans hh
      obtain ⟨h2, a2, f2⟩ := rk_198 r1 tx.1 hp d
      rw [g53 h1 f] at a2
      have fr2 := FrW_tr f f2
      have r2 := RK_W r fr2
      have w2 := r2.w
      have wk1 : w32 (k + 1) = k + 1 := by unfold w32; omega
      have nx : ∀ b v h2, FrW h h2 → ∃ h', V (d + 8) 202 89 [(2, 311), (0, a), (0, b), (1, v), (9, 0), (0, k), (9, 0), (9, 0)] [] h2 = some ((0, cho T S what who m (k + 1) b v), h') ∧ FrW h h' := fun b v h2 f2 => by
        rw [e202_89, wk1]; exact ih (k + 1) b v h2 f2 (by omega) (by omega)
      have e7 : V (d + 8) 202 7 [(2, 311), (0, a), (0, b), (1, v), (9, 0), (0, k), (9, 0), (9, 0)] [] h1 = if bI (rCan T S (decide (what = 4)) k) = 0 then V (d + 8) 202 89 [(2, 311), (0, a), (0, b), (1, v), (9, 0), (0, k), (9, 0), (9, 0)] [] h2 else V (d + 8) 202 28 [(2, 311), (0, a), (0, b), (1, v), (9, 0), (0, k), (9, 0), (9, 0)] [] h2 := by
        rw [e202_7, if_pos (F_a311 w), P_311_3 w, if_pos (F_a313 w), L_a313 w, if_pos (by decide), rt2 r1.1, if_pos hp.2, e202_18, if_pos (F_a311 w), Cl_eq _ a2]
      rw [e7]
      unfold cho
      rw [sCan_r iv hp]
      cases hc : rCan T S (decide (what = 4)) k with
      | false =>
        rw [if_pos bI_f, Bool.false_and]
        simp only [Bool.false_eq_true, if_false]
        exact nx b v h2 fr2
      | true =>
        rw [if_neg (by decide), Bool.true_and]
        obtain ⟨p1, p2, p3, p4, p5, p6⟩ := pieT r.K hp
        have e53 : ∃ h', V (d + 8) 202 53 [(2, 311), (0, a), (0, b), (1, v), (9, 0), (0, k), (9, 0), (9, 0)] [] h2 = some ((0, if what = 3 then k else if v < sPick T S k then cho T S what who m (k + 1) k (sPick T S k) else cho T S what who m (k + 1) b v), h') ∧ FrW h h' := by
          rw [e202_53, if_pos (F_a311 w2), g53 h2 fr2]
          by_cases q3 : what = 3
          · rw [if_pos q3, if_pos q3]; exact ⟨h2, rfl, fr2⟩
          · obtain ⟨h3, a3, f3⟩ := rk_197 r2 tx.1 hp (d + 2)
            rw [if_neg q3, if_neg q3, e202_64, if_pos (F_a311 w2), Cl_eq _ a3, e202_73]
            simp only [lcm_g]
            by_cases z : v < sPick T S k
            · rw [if_pos z, if_pos z, e202_83]; exact nx _ _ h3 (FrW_tr fr2 f3)
            · rw [if_neg z, if_neg z]; exact nx _ _ h3 (FrW_tr fr2 f3)
        rw [e202_28, if_pos (F_a311 w2), g53 h2 fr2]
        by_cases q2 : what = 2
        · rw [if_pos q2, if_pos (F_a311 w2), if_pos (F_a311 w2), P_311_13 w2, if_pos (F_a323 w2), L_a323 w2, if_pos (by omega), rt13 r2.1 hp, g54 h2 fr2, decide_eq_true q2, Bool.true_and]
          by_cases z : who = T 13 k
          · rw [if_pos z, e202_50, decide_eq_true z.symm]
            simp only [Bool.not_true, Bool.false_eq_true, if_false]
            exact nx b v h2 fr2
          · rw [if_neg z, decide_eq_false (fun y => z y.symm)]
            simp only [Bool.not_false, if_true]
            exact e53
        · rw [if_neg q2, decide_eq_false q2, Bool.false_and]
          simp only [Bool.not_false, if_true]
          exact e53
  obtain ⟨h', aa, f⟩ := key (T 2 0).toNat 0 (-1) 0 h (FrW_rf r.w) (by decide) (by omega)
  exact ⟨h', by rw [ce_202, e202_0, aa]; rfl, f⟩
theorem tSize_b (hT : TOK T) {p : Int} (hp : 0 ≤ p ∧ p < T 2 0) : 1 ≤ tSize T p ∧ tSize T p ≤ 9 := by
  obtain ⟨p1, p2, p3, -⟩ := pieT hT hp
  exact (hT.2.2.2.2.2.2 (T 13 p) p3.1 p3.2).2
theorem OWN_own (o : OWN T S) {p x : Int} (hd : S 8 p = tSize T p) (hx : x = -2 ∨ (0 ≤ x ∧ x < T 1 0)) : OWN T (up2 S 9 p x) := fun q q0 q1 => by
  show (if (9 : Nat) = 9 ∧ q = p then x else S 9 q) = -1 ∨ (S 8 q = tSize T q ∧ ((if (9 : Nat) = 9 ∧ q = p then x else S 9 q) = -2 ∨ (0 ≤ (if (9 : Nat) = 9 ∧ q = p then x else S 9 q) ∧ (if (9 : Nat) = 9 ∧ q = p then x else S 9 q) < T 1 0)))
  by_cases y : q = p
  · rw [if_pos ⟨rfl, y⟩, y]; exact Or.inr ⟨hd, hx⟩
  · rw [if_neg (fun z => y z.2)]; exact o q q0 q1
theorem IV_own (iv : IV n T S) {p x : Int} (hd : S 8 p = tSize T p) (hx : x = -2 ∨ (0 ≤ x ∧ x < T 1 0)) : IV n T (sOwn S p x) := by
  obtain ⟨i1, i2, i3, i4, i5, i6, i7, i8⟩ := iv
  unfold sOwn
  split
  · exact ⟨i1, i2, i3, ⟨by show 0 ≤ S 5 0 + 1; omega, by show S 5 0 + 1 ≤ 40; omega⟩, i5, i6, i7, OWN_own i8 hd hx⟩
  · exact ⟨i1, i2, i3, i4, i5, i6, i7, OWN_own i8 hd hx⟩
theorem IV_8 (iv : IV n T S) {p v : Int} (hv : 0 ≤ v ∧ v ≤ tSize T p) (ho : S 9 p = -1 ∨ v = tSize T p) : IV n T (up2 S 8 p v) := by
  obtain ⟨i1, i2, i3, i4, i5, i6, i7, i8⟩ := iv
  refine ⟨fun q q0 q1 => ?_, i2, i3, i4, i5, i6, i7, fun q q0 q1 => ?_⟩
  rotate_left
  · show S 9 q = -1 ∨ ((if (8 : Nat) = 8 ∧ q = p then v else S 8 q) = tSize T q ∧ (S 9 q = -2 ∨ (0 ≤ S 9 q ∧ S 9 q < T 1 0)))
    have o := i8 q q0 q1
    by_cases y : q = p
    · rw [if_pos ⟨rfl, y⟩]
      rw [y] at o ⊢
      rcases o with o | o
      · exact Or.inl o
      · rcases ho with z | z
        · exact Or.inl z
        · exact Or.inr ⟨z, o.2⟩
    · rw [if_neg (fun z => y z.2)]; exact o
  obtain ⟨j1, j2, j3⟩ := i1 q q0 q1
  refine ⟨?_, j2, j3⟩
  show 0 ≤ (if (8 : Nat) = 8 ∧ q = p then v else S 8 q) ∧ (if (8 : Nat) = 8 ∧ q = p then v else S 8 q) ≤ tSize T q
  split
  · rename_i z; rw [z.2]; exact hv
  · exact j1
theorem rk_203 (r : RK h a T S) (iv : IV n T S) {p : Int} (hp : 0 ≤ p ∧ p < T 2 0) (hs : S 8 p < tSize T p) (d : Nat) : ∃ h', C (d + 1) 203 [(2, 311), (0, a), (0, p)] h = some ((9, 0), h') ∧ FrA a h h' ∧ RK h' a T (sStroke T S p) ∧ IV n T (sStroke T S p) := by
  have w := r.w
  have ra := r.2.1
  have hT := r.K
  obtain ⟨p1, p2, p3, p4, p5, p6⟩ := pieT hT hp
  have sb := tSize_b hT hp
  have c8 := (iv.1 p hp.1 hp.2).1
  have hw : w32 (S 8 p + 1) = S 8 p + 1 := by unfold w32; omega
  obtain ⟨r1, f1⟩ := rk_u8 r hp (v := w32 (S 8 p + 1)) (w32_I _)
  have iv1 : IV n T (up2 S 8 p (w32 (S 8 p + 1))) := IV_8 iv (by rw [hw]; omega) (by
    rcases iv.2.2.2.2.2.2.2 p hp.1 hp.2 with z | z
    · exact Or.inl z
    · omega)
  have w1 := r1.w
  have ef := qFull_D iv1 hp
  have e0 : C (d + 1) 203 [(2, 311), (0, a), (0, p)] h = if bI (qDone T (up2 S 8 p (w32 (S 8 p + 1))) p) = 0 then some ((9, 0), st h 340 (10 * a + p) (w32 (S 8 p + 1))) else V (d + 1) 203 24 [(2, 311), (0, a), (0, p)] [] (st h 340 (10 * a + p) (w32 (S 8 p + 1))) := by
    rw [ce_203, e203_0, if_pos (F_a311 w), P_311_43 w, if_pos (F_a340 w), w10 ra p1, L_a340 w, if_pos (by omega), if_pos (W_a340 w), if_pos (by omega), rs8 r hp, e203_15, if_pos (F_a311 w1), Cl_eq _ (rk_185 r1 hp d), ef, e203_36]
  generalize st h 340 (10 * a + p) (w32 (S 8 p + 1)) = h1 at *
  unfold sStroke
  cases hq : qDone T (up2 S 8 p (w32 (S 8 p + 1))) p with
  | false =>
    rw [hq, if_pos bI_f] at e0
    rw [if_neg (by decide)]
    exact ⟨h1, e0, f1, r1, iv1⟩
  | true =>
    rw [hq, if_neg (by decide)] at e0
    rw [if_pos rfl]
    obtain ⟨h2, a2, f2, r2⟩ := rk_187 r1 iv1.2.2.2.1 hp p4 d
    exact ⟨h2, by rw [e0, e203_24, if_pos (F_a311 w1), P_311_12 w1, if_pos (F_a322 w1), L_a322 w1, if_pos (by omega), if_pos (F_a311 w1), rt12 r1.1 hp, Cl_eq _ a2, e203_36], FrA_tr f1 f2, r2, IV_own iv1 (by
      have hb := (iv1.1 p hp.1 hp.2).1
      unfold qDone at hq
      by_cases y : up2 S 8 p (w32 (S 8 p + 1)) 8 p < tSize T p
      · rw [decide_eq_true y] at hq; cases hq
      · omega) (Or.inr p2)⟩
end RD
