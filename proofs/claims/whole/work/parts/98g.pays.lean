/-! layer 2: the plain program: who pays what -/
section PS2
variable {h h' : Hp} {a n : Int} {T S : Wd}
theorem take_0 {t skip : Int} (hI : I32 (S 6 t)) (h0 : 0 ≤ S 6 t) : sTake T S t 0 skip = (S, 0) := by
  unfold sTake
  have hm : imin 0 (S 6 t) = 0 := by unfold imin; split <;> omega
  have hw : w32 (S 6 t - 0) = S 6 t := by unfold I32 at hI; unfold w32; omega
  split
  · rw [hm, hw]
    have : up2 S 6 t (S 6 t) = S := by
      funext f i
      unfold up2
      split
      · rename_i z; rw [z.1, z.2]
      · rfl
    rw [this]
  · rfl
theorem tdiv2 {x : Int} (h : 0 ≤ x) : 0 ≤ x.tdiv 2 ∧ x.tdiv 2 ≤ x := by
  rw [Int.tdiv_eq_ediv_of_nonneg h]; omega
theorem payH_b {k amt : Int} (h : 0 ≤ amt ∧ amt < 100000) : 0 ≤ payH T S k amt ∧ payH T S k amt ≤ amt := by
  have := tdiv2 h.1
  unfold payH
  split
  · unfold w32; omega
  · omega
def amtOf (T S : Wd) (k due : Int) : Int := imin (T 9 k) (w32 (sPrice T S due - S 7 due))
theorem amt_b (iv : IV n T S) (tx : TX T) (hT : TOK T) {k due : Int} (hk : 0 ≤ k ∧ k < T 1 0) (hd : 0 ≤ due ∧ due < T 2 0) (hp : qPaid T S due = false) : 0 ≤ amtOf T S k due ∧ amtOf T S k due ≤ 99 ∧ amtOf T S k due ≤ sPrice T S due - S 7 due := by
  have b := sPrice_b (S := S) hT hd
  have c := (iv.1 due hd.1 hd.2).2.1
  have e := (tx.2 k hk.1 hk.2).2
  have hl : S 7 due < sPrice T S due := by
    unfold qPaid at hp
    by_cases z : S 7 due < sPrice T S due
    · exact z
    · rw [decide_eq_false z] at hp; cases hp
  have hw : w32 (sPrice T S due - S 7 due) = sPrice T S due - S 7 due := by unfold w32; omega
  unfold amtOf imin
  rw [hw]
  split <;> omega
/-- the class's way of it, the plain way of it -/
theorem payB_eq (iv : IV n T S) (hn : n ≤ 600) (hI : ∀ f i, I32 (S f i)) (hT : TOK T) {k due skip tot amt : Int} (hk : 0 ≤ k ∧ k < T 1 0) (ha : 0 ≤ amt ∧ amt ≤ 99) :
    payM T skip k due tot amt (payH T S k amt) S = (let B := sTake T S (T 10 k) (payH T S k amt) skip
      let D := sTake T B.1 k (amt - payH T S k amt) skip
      (up2 D.1 7 due (w32 (D.1 7 due + w32 (B.2 + D.2))), w32 (tot + w32 (B.2 + D.2)))) := by
  have hb := payH_b (T := T) (S := S) (k := k) (amt := amt) (by omega)
  have hne : k ≠ T 10 k := by
    rcases (hT.2.2.2.2.2.1 k hk.1 hk.2).1 with z | z
    · omega
    · exact fun y => z.2.2 y.symm
  obtain ⟨c1, c2, c3⟩ := take_c T S (s := k) (t := T 10 k) (m := amt - payH T S k amt) (k := payH T S k amt) (skip := skip) hne
  unfold payM
  rw [show w32 (amt - payH T S k amt) = amt - payH T S k amt by unfold w32; omega]
  dsimp only
  rw [c1, c2, c3, Int.add_comm (sTake T S k _ skip).2]
theorem IV_pay (iv : IV n T S) (hn : n ≤ 600) (hI : ∀ f i, I32 (S f i)) (hT : TOK T) {k due skip tot amt : Int} (hk : 0 ≤ k ∧ k < T 1 0) (hd : 0 ≤ due ∧ due < T 2 0) (ha : 0 ≤ amt ∧ amt ≤ 99) (hl : amt ≤ sPrice T S due - S 7 due) : IV n T (payM T skip k due tot amt (payH T S k amt) S).1 := by
  rw [payB_eq iv hn hI hT hk ha]
  have hb := payH_b (T := T) (S := S) (k := k) (amt := amt) (by omega)
  obtain ⟨i1, i2, i3, i4, i5⟩ := iv
  have t1 := hT.2.1
  have pb := sPrice_b (S := S) hT hd
  have hs0 : ∀ s, 0 ≤ s → s < 5 → S 6 s ≤ 2000000 := fun s s0 s1 => by have := SUM_le i2 ⟨s0, s1⟩; omega
  generalize payH T S k amt = half at *
  have hB : (∀ s', 0 ≤ s' → s' < 5 → 0 ≤ (sTake T S (T 10 k) half skip).1 6 s') ∧ SUM (sTake T S (T 10 k) half skip).1 ≤ SUM S ∧ 0 ≤ (sTake T S (T 10 k) half skip).2 ∧ (sTake T S (T 10 k) half skip).2 ≤ half := by
    rcases (hT.2.2.2.2.2.1 k hk.1 hk.2).1 with z | z
    · have e : sTake T S (T 10 k) half skip = (S, 0) := by
        unfold sTake
        rw [if_neg (fun y => by have := qSit_iff.mp y.1; omega)]
      rw [e]
      exact ⟨i2, Int.le_refl _, Int.le_refl 0, hb.1⟩
    · obtain ⟨u1, u2⟩ := take_6 (T := T) (S := S) (skip := skip) (s := T 10 k) (m := half) (by omega) hb.1 i2 (hs0 _ (by omega) (by omega))
      exact ⟨u1, u2, take_v hb.1 (i2 _ (by omega) (by omega))⟩
  obtain ⟨b1, b2, b3, b4⟩ := hB
  have eB7 : ∀ f, f ≠ 6 → ∀ i, (sTake T S (T 10 k) half skip).1 f i = S f i := fun f hf i => take_o T S _ _ _ hf i
  generalize sTake T S (T 10 k) half skip = B at *
  have hs1 : ∀ s, 0 ≤ s → s < 5 → B.1 6 s ≤ 2000000 := fun s s0 s1 => by have := SUM_le b1 ⟨s0, s1⟩; omega
  obtain ⟨d1, d2⟩ := take_6 (T := T) (S := B.1) (skip := skip) (s := k) (m := amt - half) (by omega) (by omega) b1 (hs1 _ (by omega) (by omega))
  have d3 := take_v (T := T) (S := B.1) (skip := skip) (s := k) (m := amt - half) (by omega) (b1 _ (by omega) (by omega))
  have eD7 : ∀ f, f ≠ 6 → ∀ i, (sTake T B.1 k (amt - half) skip).1 f i = S f i := fun f hf i => (take_o T B.1 _ _ _ hf i).trans (eB7 f hf i)
  dsimp only
  generalize sTake T B.1 k (amt - half) skip = D at *
  have hg : w32 (B.2 + D.2) = B.2 + D.2 := by unfold w32; omega
  have c7 := (i1 due hd.1 hd.2).2.1
  have h7 : w32 (D.1 7 due + (B.2 + D.2)) = S 7 due + (B.2 + D.2) := by rw [eD7 7 (by decide)]; unfold w32; omega
  rw [hg, h7]
  have e8 : ∀ p, up2 D.1 7 due (S 7 due + (B.2 + D.2)) 8 p = S 8 p := fun p => eD7 8 (by decide) p
  have e3 : ∀ p, qLap (up2 D.1 7 due (S 7 due + (B.2 + D.2))) p = qLap S p := fun p => by unfold qLap; rw [show up2 D.1 7 due (S 7 due + (B.2 + D.2)) 3 0 = S 3 0 from eD7 3 (by decide) 0]
  have e0 : up2 D.1 7 due (S 7 due + (B.2 + D.2)) 0 0 = S 0 0 := eD7 0 (by decide) 0
  have e5 : up2 D.1 7 due (S 7 due + (B.2 + D.2)) 5 0 = S 5 0 := eD7 5 (by decide) 0
  have e30 : up2 D.1 7 due (S 7 due + (B.2 + D.2)) 3 0 = S 3 0 := eD7 3 (by decide) 0
  have e20 : up2 D.1 7 due (S 7 due + (B.2 + D.2)) 2 0 = S 2 0 := eD7 2 (by decide) 0
  refine ⟨fun p p0 p1 => ?_, d1, ?_, by rw [e5]; exact i4, by rw [e0]; exact i5.1, by rw [e30]; exact i5.2.1, by rw [e20]; exact i5.2.2.1, fun p p0 p1 => by rw [e8, show up2 D.1 7 due (S 7 due + (B.2 + D.2)) 9 p = S 9 p from eD7 9 (by decide) p]; exact i5.2.2.2 p p0 p1⟩
  · obtain ⟨j1, j2, j3⟩ := i1 p p0 p1
    rw [e8, e3, e0]
    refine ⟨j1, ?_, j3⟩
    show 0 ≤ (if (7 : Nat) = 7 ∧ p = due then _ else D.1 7 p) ∧ (if (7 : Nat) = 7 ∧ p = due then _ else D.1 7 p) ≤ 999
    split
    · omega
    · rw [eD7 7 (by decide)]; exact j2
  · show SUM D.1 ≤ _
    omega
theorem I32_take {T S : Wd} (hS : ∀ f i, I32 (S f i)) (s m skip : Int) : ∀ f i, I32 ((sTake T S s m skip).1 f i) := by
  unfold sTake; split
  · exact I32_u2 hS (w32_I _)
  · exact hS
/-- the first piece that is still to be paid -/
def rDue (T S : Wd) (w4 : Bool) (x : Int) : Int := fnd (fun p => decide (T 12 p = x) && (!qLap S p && (!qFull T S p && !(w4 || qPaid T S p)))) (T 2 0).toNat 0
theorem rDue_w (T S : Wd) (x : Int) : rDue T S true x = -1 := by
  unfold rDue
  have : ∀ (n : Nat) (k : Int), fnd (fun p => decide (T 12 p = x) && (!qLap S p && (!qFull T S p && !(true || qPaid T S p)))) n k = -1 := by
    intro n
    induction n with
    | zero => intro k; rfl
    | succ n ih => intro k; unfold fnd; rw [if_neg (by simp)]; exact ih _
  exact this _ _
theorem fnd_cong {f g : Int → Bool} : ∀ (n : Nat) (k : Int), (∀ i, k ≤ i → i < k + n → f i = g i) → fnd f n k = fnd g n k
  | 0, _, _ => rfl
  | n + 1, k, e => by
    unfold fnd
    rw [e k (Int.le_refl _) (by omega), fnd_cong n (k + 1) (fun i i0 i1 => e i (by omega) (by omega))]
theorem rDue_s (iv : IV n T S) (hT : TOK T) (x : Int) : rDue T S false x = sDue T S x := by
  have t2 := hT.2.2.1
  unfold rDue sDue
  refine fnd_cong _ _ (fun p p0 p1 => ?_)
  rw [qFull_D iv ⟨by omega, by omega⟩, Bool.false_or]
theorem due_loop (r : RK h a T S) (lw : LWF T) {tot k : Int} (d : Nat) : ∀ (m : Nat) (p : Int) (h1 : Hp), FrW h h1 → 0 ≤ p → p + m = T 2 0 → ∃ h', V (d + 7) 200 29 [(2, 311), (0, a), (0, tot), (0, k), (0, p), (9, 0), (9, 0), (9, 0)] [] h1 = V (d + 7) 200 87 [(2, 311), (0, a), (0, tot), (0, k), (0, if fnd (fun p => decide (T 12 p = k) && (!qLap S p && (!qFull T S p && !(decide (ld h 311 53 = 4) || qPaid T S p)))) m p = -1 then T 2 0 else fnd (fun p => decide (T 12 p = k) && (!qLap S p && (!qFull T S p && !(decide (ld h 311 53 = 4) || qPaid T S p)))) m p), (9, 0), (9, 0), (9, 0)] [] h' ∧ FrW h h' := by
  have t2 := r.K.2.2.1
  intro m
  induction m with
  | zero =>
    intro p h1 f p0 hp
    have r1 := RK_W r f
    have w := r1.w
    refine ⟨h1, ?_, f⟩
    rw [e200_29, if_pos (F_a311 w), P_311_3 w, if_pos (F_a313 w), L_a313 w, if_pos (by decide), rt2 r1.1, if_neg (by omega)]
    show _ = V (d + 7) 200 87 [_, _, _, _, (0, if (-1 : Int) = -1 then T 2 0 else -1), _, _, _] [] h1
    rw [if_pos rfl, show p = T 2 0 by omega]
  | succ m ih =>
    intro p h1 f p0 hp
    have r1 := RK_W r f
    have w := r1.w
    have hpp : 0 ≤ p ∧ p < T 2 0 := ⟨p0, by omega⟩
    have wk1 : w32 (p + 1) = p + 1 := by unfold w32; omega
    have e29 : V (d + 7) 200 29 [(2, 311), (0, a), (0, tot), (0, k), (0, p), (9, 0), (9, 0), (9, 0)] [] h1 = if T 12 p = k then V (d + 7) 200 51 [(2, 311), (0, a), (0, tot), (0, k), (0, p), (9, 0), (9, 0), (9, 0)] [] h1 else V (d + 7) 200 81 [(2, 311), (0, a), (0, tot), (0, k), (0, p), (9, 0), (9, 0), (9, 0)] [] h1 := by
      rw [e200_29, if_pos (F_a311 w), P_311_3 w, if_pos (F_a313 w), L_a313 w, if_pos (by decide), rt2 r1.1, if_pos hpp.2, e200_40, if_pos (F_a311 w), P_311_12 w, if_pos (F_a322 w), L_a322 w, if_pos (by omega), rt12 r1.1 hpp]
    have nx : ∀ h2, FrW h h2 → ∃ h', V (d + 7) 200 81 [(2, 311), (0, a), (0, tot), (0, k), (0, p), (9, 0), (9, 0), (9, 0)] [] h2 = V (d + 7) 200 87 [(2, 311), (0, a), (0, tot), (0, k), (0, if fnd (fun p => decide (T 12 p = k) && (!qLap S p && (!qFull T S p && !(decide (ld h 311 53 = 4) || qPaid T S p)))) m (p + 1) = -1 then T 2 0 else fnd (fun p => decide (T 12 p = k) && (!qLap S p && (!qFull T S p && !(decide (ld h 311 53 = 4) || qPaid T S p)))) m (p + 1)), (9, 0), (9, 0), (9, 0)] [] h' ∧ FrW h h' := fun h2 f2 => by
      rw [e200_81, wk1]; exact ih (p + 1) h2 f2 (by omega) (by omega)
    rw [e29]
    unfold fnd
    by_cases c1 : T 12 p = k
    · rw [if_pos c1, e200_51, if_pos (F_a311 w), Cl_eq _ (rk_184 r1 p (d + 6)), decide_eq_true c1, Bool.true_and]
      cases qLap S p with
      | true => rw [if_neg (by decide), Bool.not_true, Bool.false_and]; simp only [Bool.false_eq_true, if_false]; exact nx h1 f
      | false =>
        rw [if_pos bI_f, e200_61, if_pos (F_a311 w), Cl_eq _ (rk_185 r1 hpp (d + 6)), Bool.not_false, Bool.true_and]
        cases qFull T S p with
        | true => rw [if_neg (by decide), Bool.not_true, Bool.false_and]; simp only [Bool.false_eq_true, if_false]; exact nx h1 f
        | false =>
          obtain ⟨h2, a2, f2⟩ := rk_196 r1 lw hpp d
          rw [f.2.2 311 53 (by decide) (by decide) (by decide)] at a2
          rw [if_pos bI_f, e200_71, if_pos (F_a311 w), Cl_eq _ a2, Bool.not_false, Bool.true_and]
          cases decide (ld h 311 53 = 4) || qPaid T S p with
          | true => rw [if_neg (by decide), Bool.not_true]; simp only [Bool.false_eq_true, if_false]; exact nx h2 (FrW_tr f f2)
          | false =>
            rw [if_pos bI_f, Bool.not_false, if_pos rfl, if_neg (by omega)]
            exact ⟨h2, rfl, FrW_tr f f2⟩
    · rw [if_neg c1, decide_eq_false c1, Bool.false_and]; simp only [Bool.false_eq_true, if_false]; exact nx h1 f
theorem pay_step (r : RK h a T S) (tx : TX T) (iv : IV n T S) (hn : n ≤ 600) {skip : Int} (hk : skip = if ld h 311 53 = 1 then ld h 311 54 else -1) {tot k : Int} (h0 : 0 ≤ k ∧ k < T 1 0) (d : Nat) : ∃ h', V (d + 7) 200 4 [(2, 311), (0, a), (0, tot), (0, k), (9, 0), (9, 0), (9, 0), (9, 0)] [] h = V (d + 7) 200 4 [(2, 311), (0, a), (0, (if ld h 311 53 = 4 then (S, tot) else payK T skip k (S, tot)).2), (0, k + 1), (9, 0), (9, 0), (9, 0), (9, 0)] [] h' ∧ FrA a h h' ∧ RK h' a T (if ld h 311 53 = 4 then (S, tot) else payK T skip k (S, tot)).1 ∧ IV n T (if ld h 311 53 = 4 then (S, tot) else payK T skip k (S, tot)).1 := by
  have w := r.w
  have ra := r.2.1
  have hT := r.K
  have t1 := hT.2.1
  have t2 := hT.2.2.1
  have wk1 : w32 (k + 1) = k + 1 := by unfold w32; omega
  have e228 : ∀ h' t, V (d + 7) 200 228 [(2, 311), (0, a), (0, t), (0, k), (9, 0), (9, 0), (9, 0), (9, 0)] [] h' = V (d + 7) 200 4 [(2, 311), (0, a), (0, t), (0, k + 1), (9, 0), (9, 0), (9, 0), (9, 0)] [] h' := fun h' t => by rw [e200_228, wk1]
  rw [e200_4, if_pos (F_a311 w), P_311_3 w, if_pos (F_a313 w), L_a313 w, if_pos (by decide), rt1 r.1, if_pos h0.2, e200_14, if_pos (F_a311 w), Cl_eq _ (rk_183 r k (d + 6))]
  have stay : ∀ h', FrW h h' → qPie T (dueOf T S k) = false ∨ ld h 311 53 = 4 → ∃ h'', V (d + 7) 200 228 [(2, 311), (0, a), (0, tot), (0, k), (9, 0), (9, 0), (9, 0), (9, 0)] [] h' = V (d + 7) 200 4 [(2, 311), (0, a), (0, (if ld h 311 53 = 4 then (S, tot) else payK T skip k (S, tot)).2), (0, k + 1), (9, 0), (9, 0), (9, 0), (9, 0)] [] h'' ∧ FrA a h h'' ∧ RK h'' a T (if ld h 311 53 = 4 then (S, tot) else payK T skip k (S, tot)).1 ∧ IV n T (if ld h 311 53 = 4 then (S, tot) else payK T skip k (S, tot)).1 := fun h' f z => by
    have e : (if ld h 311 53 = 4 then (S, tot) else payK T skip k (S, tot)) = (S, tot) := by
      by_cases y : ld h 311 53 = 4
      · rw [if_pos y]
      · rw [if_neg y]
        rcases z with z | z
        · unfold payK; rw [show dueOf T (S, tot).1 k = dueOf T S k from rfl, z, if_neg (by decide)]
        · exact absurd z y
    rw [e]
    exact ⟨h', e228 h' tot, FrA_W f, RK_W r f, iv⟩
  have np : qPie T (-1) = false := by
    cases hq : qPie T (-1) with
    | false => rfl
    | true => have := qPie_iff.mp hq; omega
  cases hl : qLiv S k with
  | false =>
    rw [if_pos bI_f, e200_23]
    exact stay h (FrW_rf w) (Or.inl (by unfold dueOf; rw [hl, if_neg (by decide)]; exact np))
  | true =>
    obtain ⟨h1, a1, f1⟩ := due_loop r tx.1 (tot := tot) (k := k) d (T 2 0).toNat 0 h (FrW_rf w) (by decide) (by omega)
    have r1 := RK_W r f1
    have w1 := r1.w
    rw [if_neg (by decide), e200_26, a1]
    have g53 : ld h1 311 53 = ld h 311 53 := f1.2.2 311 53 (by decide) (by decide) (by decide)
    have g54 : ld h1 311 54 = ld h 311 54 := f1.2.2 311 54 (by decide) (by decide) (by decide)
    have ed : fnd (fun p => decide (T 12 p = k) && (!qLap S p && (!qFull T S p && !(decide (ld h 311 53 = 4) || qPaid T S p)))) (T 2 0).toNat 0 = if ld h 311 53 = 4 then -1 else sDue T S k := by
      by_cases y : ld h 311 53 = 4
      · rw [if_pos y, decide_eq_true y]; exact rDue_w T S k
      · rw [if_neg y, decide_eq_false y]; exact rDue_s iv hT k
    rw [ed]
    by_cases y : ld h 311 53 = 4
    · simp only [if_pos y]
      rw [if_pos trivial, e200_87, if_pos (F_a311 w1), P_311_3 w1, if_pos (F_a313 w1), L_a313 w1, if_pos (by decide), rt2 r1.1, if_pos rfl, e200_98]
      have := stay h1 f1 (Or.inr y)
      simp only [if_pos y] at this
      exact this
    rw [if_neg y]
    have edo : dueOf T S k = sDue T S k := by unfold dueOf; rw [hl, if_pos rfl]
    rcases fnd_rng (f := fun p => decide (T 12 p = k) && (!qLap S p && (!qDone T S p && !qPaid T S p))) (T 2 0).toNat 0 with q | ⟨q1, q2, q3⟩
    · have q : sDue T S k = -1 := q
      rw [q, if_pos rfl, e200_87, if_pos (F_a311 w1), P_311_3 w1, if_pos (F_a313 w1), L_a313 w1, if_pos (by decide), rt2 r1.1, if_pos rfl, e200_98]
      exact stay h1 f1 (Or.inl (by rw [edo, q]; exact np))
    · have q1 : 0 ≤ sDue T S k := q1
      have q2 : sDue T S k < 0 + ((T 2 0).toNat : Int) := q2
      have q3 : (decide (T 12 (sDue T S k) = k) && (!qLap S (sDue T S k) && (!qDone T S (sDue T S k) && !qPaid T S (sDue T S k)))) = true := q3
      have hP : qPaid T S (sDue T S k) = false := by
        cases hq : qPaid T S (sDue T S k) with
        | false => rfl
        | true => rw [hq] at q3; simp at q3
      have ek : payK T skip k (S, tot) = payM T skip k (sDue T S k) tot (amtOf T S k (sDue T S k)) (payH T S k (amtOf T S k (sDue T S k))) S := by
        unfold payK
        rw [show dueOf T (S, tot).1 k = sDue T S k from edo, if_pos (qPie_iff.mpr ⟨q1, by omega⟩)]
        rfl
      rw [if_neg y, ek]
      generalize hdue : sDue T S k = due at *
      have hd : 0 ≤ due ∧ due < T 2 0 := ⟨q1, by omega⟩
      obtain ⟨m1, m2, m3⟩ := amt_b iv tx hT h0 hd hP
      obtain ⟨p1, p2, p3, p4, p5, p6⟩ := pieT hT hd
      rw [if_neg (by omega), e200_87, if_pos (F_a311 w1), P_311_3 w1, if_pos (F_a313 w1), L_a313 w1, if_pos (by decide), rt2 r1.1, if_neg (by omega)]
      have ivp := IV_pay (skip := skip) (tot := tot) iv hn r.2.2.2 hT h0 hd ⟨m1, m2⟩ m3
      have em := payB_eq (skip := skip) (due := due) (tot := tot) iv hn r.2.2.2 hT h0 ⟨m1, m2⟩
      rw [em] at ivp ⊢
      obtain ⟨h2, a2, f2⟩ := rk_195 r1 tx.1 hd (d + 1)
      have r2 := RK_W r1 f2
      have w2 := r2.w
      have e101 : V (d + 7) 200 101 [(2, 311), (0, a), (0, tot), (0, k), (0, due), (9, 0), (9, 0), (9, 0)] [] h1 = V (d + 7) 200 130 [(2, 311), (0, a), (0, tot), (0, k), (0, due), (9, 0), (9, 0), (9, 0)] [(0, amtOf T S k due)] h2 := by
        rw [e200_101, if_pos (F_a311 w1), P_311_9 w1, if_pos (F_a319 w1), L_a319 w1, if_pos (by omega), if_pos (F_a311 w1), Cl_eq _ a2, if_pos (F_a311 w2), P_311_42 w2, if_pos (F_a339 w2), w10 ra p1, L_a339 w2, if_pos (by omega), rt9 r1.1 h0, rs7 r2 hd, Cl_eq _ (min245 (d + 6) _ _)]
        rfl
      rw [e101]
      have hph := payH_b (T := T) (S := S) (k := k) (amt := amtOf T S k due) (by omega)
      have e164 : V (d + 7) 200 130 [(2, 311), (0, a), (0, tot), (0, k), (0, due), (9, 0), (9, 0), (9, 0)] [(0, amtOf T S k due)] h2 = V (d + 7) 200 164 [(2, 311), (0, a), (0, tot), (0, k), (0, due), (0, amtOf T S k due), (9, 0), (9, 0)] [(0, payH T S k (amtOf T S k due))] h2 := by
        rw [e200_130, if_pos (F_a311 w2), P_311_10 w2, if_pos (F_a320 w2), L_a320 w2, if_pos (by omega), rt10 r2.1 h0]
        unfold payH
        rcases (hT.2.2.2.2.2.1 k h0.1 h0.2).1 with z | z
        · rw [if_pos z, e200_163, if_neg (fun u => by have := qSit_iff.mp u.1; omega)]
        · have hs : qSit T (T 10 k) = true := qSit_iff.mpr ⟨z.1, z.2.1⟩
          rw [if_neg (by omega), e200_142, if_pos (F_a311 w2), P_311_10 w2, if_pos (F_a320 w2), L_a320 w2, if_pos (by omega), if_pos (F_a311 w2), rt10 r2.1 h0, Cl_eq _ (rk_183 r2 (T 10 k) (d + 6))]
          cases hlt : qLiv S (T 10 k) with
          | false => rw [if_pos bI_f, e200_163, if_neg (fun u => by cases u.2)]
          | true => rw [if_neg (by decide), e200_156, if_neg (by decide), if_pos ⟨hs, rfl⟩]
      rw [e164]
      generalize hhalf : payH T S k (amtOf T S k due) = half at *
      generalize amtOf T S k due = amt at *
      have g253 : ld h2 311 53 = ld h 311 53 := (f2.2.2 311 53 (by decide) (by decide) (by decide)).trans g53
      have g254 : ld h2 311 54 = ld h 311 54 := (f2.2.2 311 54 (by decide) (by decide) (by decide)).trans g54
      -- the twin's half
      have hB : ∃ h3, V (d + 7) 200 164 [(2, 311), (0, a), (0, tot), (0, k), (0, due), (0, amt), (9, 0), (9, 0)] [(0, half)] h2 = V (d + 7) 200 188 [(2, 311), (0, a), (0, tot), (0, k), (0, due), (0, amt), (0, half), (9, 0)] [(0, (sTake T S (T 10 k) half skip).2)] h3 ∧ FrA a h2 h3 ∧ RK h3 a T (sTake T S (T 10 k) half skip).1 := by
        rw [e200_164]
        by_cases z : 0 < half
        · have hs : 0 ≤ T 10 k ∧ T 10 k < T 1 0 := by
            rcases (hT.2.2.2.2.2.1 k h0.1 h0.2).1 with u | u
            · exfalso
              rw [← hhalf] at z
              unfold payH at z
              rw [if_neg (fun u' => by have := qSit_iff.mp u'.1; omega)] at z
              omega
            · exact ⟨u.1, u.2.1⟩
          obtain ⟨h3, a3, f3, r3⟩ := rk_199 r2 hs skip (by rw [g253, g254]; exact hk) (m := half) (by omega) (iv.2.1 _ (by omega) (by omega)) (I32_of (by omega)) (d + 5)
          rw [if_pos z, if_pos (F_a311 w2), P_311_10 w2, if_pos (F_a320 w2), L_a320 w2, if_pos (by omega), if_pos (F_a311 w2), rt10 r2.1 h0, Cl_eq _ a3]
          exact ⟨h3, rfl, f3, r3⟩
        · have hz : half = 0 := by omega
          have e0 : sTake T S (T 10 k) 0 skip = (S, 0) := by
            rcases (hT.2.2.2.2.2.1 k h0.1 h0.2).1 with u | u
            · unfold sTake; rw [if_neg (fun u' => by have := qSit_iff.mp u'.1; omega)]
            · exact take_0 (r.2.2.2 _ _) (iv.2.1 _ (by omega) (by omega))
          rw [if_neg z, e200_187, hz, e0]
          exact ⟨h2, rfl, FrA_rf w2, r2⟩
      obtain ⟨h3, a3, f3, r3⟩ := hB
      rw [a3]
      have g353 : ld h3 311 53 = ld h 311 53 := (f3.2.2 311 53 (by decide) (by decide) (by decide) (by unfold inA; omega)).trans g253
      have g354 : ld h3 311 54 = ld h 311 54 := (f3.2.2 311 54 (by decide) (by decide) (by decide) (by unfold inA; omega)).trans g254
      have b6 : ∀ s', 0 ≤ s' → s' < 5 → 0 ≤ (sTake T S (T 10 k) half skip).1 6 s' := by
        intro s' u0 u1
        by_cases z : 0 ≤ T 10 k ∧ T 10 k < 5
        · exact (take_6 z hph.1 iv.2.1 (by have := SUM_le iv.2.1 z; have := iv.2.2.1; omega)).1 s' u0 u1
        · have : sTake T S (T 10 k) half skip = (S, 0) := by unfold sTake; rw [if_neg (fun u' => by have := qSit_iff.mp u'.1; omega)]
          rw [this]; exact iv.2.1 s' u0 u1
      have e7 : (sTake T S (T 10 k) half skip).1 7 due = S 7 due := take_o _ _ _ _ _ (by decide) _
      generalize sTake T S (T 10 k) half skip = B at *
      have w3 := r3.w
      obtain ⟨h4, a4, f4, r4⟩ := rk_199 r3 h0 skip (by rw [g353, g354]; exact hk) (m := amt - half) (by omega) (b6 _ (by omega) (by omega)) (I32_of (by omega)) (d + 5)
      rw [e200_188, if_pos (F_a311 w3), show w32 (amt - half) = amt - half by unfold w32; omega, Cl_eq _ a4]
      dsimp only at ivp ⊢
      generalize sTake T B.1 k (amt - half) skip = D at *
      have w4 := r4.w
      obtain ⟨r5, f5⟩ := rk_u7 r4 hd (v := w32 (D.1 7 due + w32 (B.2 + D.2))) (w32_I _)
      refine ⟨_, ?_, FrA_tr (FrA_W f1) (FrA_tr (FrA_W f2) (FrA_tr f3 (FrA_tr f4 f5))), r5, ivp⟩
      rw [e200_206, if_pos (F_a311 w4), P_311_42 w4, if_pos (F_a339 w4), w10 ra p1, L_a339 w4, if_pos (by omega), if_pos (W_a339 w4), if_pos (by omega), rs7 r4 hd, e200_223, e228]
end PS2
