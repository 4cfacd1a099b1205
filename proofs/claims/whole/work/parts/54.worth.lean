/-! layer 2: a law's value as the class works it out -/
def stk (h : Hp) (a : Int) : Nat → List Int
  | 0 => []
  | n + 1 => ld h a (n : Int) :: stk h a n
theorem stk_len (h : Hp) (a : Int) : ∀ n, (stk h a n).length = n
  | 0 => rfl
  | n + 1 => by show (stk h a n).length + 1 = _; rw [stk_len h a n]
theorem stk_cong {h h' : Hp} {a : Int} : ∀ {n : Nat}, (∀ j : Int, 0 ≤ j → j < n → ld h' a j = ld h a j) → stk h' a n = stk h a n
  | 0, _ => rfl
  | n + 1, e => by
    show ld h' a (n : Int) :: stk h' a n = ld h a (n : Int) :: stk h a n
    rw [e n (by omega) (by omega), stk_cong (n := n) (fun j h1 h2 => e j h1 (by omega))]
theorem stk_st {h : Hp} {a i v : Int} {n : Nat} (e : (n : Int) ≤ i) : stk (st h a i v) a n = stk h a n := stk_cong (fun j h1 h2 => ld_st_ne (Or.inr (by omega)))
def FrQ (q : Int) (h h' : Hp) : Prop := WF h' ∧ h'.2 = h.2 ∧ ∀ a j : Int, a ≠ q + 3 → h'.1 a j = h.1 a j
theorem FrQ_st {q : Int} {h h1 : Hp} (hq : q ∈ LWL) (f : FrQ q h h1) (i v : Int) : FrQ q h (st h1 (q + 3) i v) := ⟨wf_st f.1 (nfam_at lf_nA hq (by decide) i), f.2.1, fun a j e => by
  show (if a = q + 3 ∧ j = i then v else h1.1 a j) = _
  rw [if_neg (fun z => e z.1)]; exact f.2.2 a j e⟩
theorem tk_lev0 : (List.range 38).all (fun k => decide ((tokFd.getD k []).getD 1 0 = 0) == !decide (7 ≤ k ∧ k ≤ 19)) = true := by decide +kernel
theorem tk_nam0 : (List.range 38).all (fun k => decide ((tokFd.getD k []).getD 2 0 = if 31 ≤ k then (k : Int) - 31 else -1)) = true := by decide +kernel
section WO
variable {h : Hp}
theorem tk_lev (w : WF h) {t : Int} (ht : -38 ≤ t ∧ t ≤ -1) : (ld h t 1 = 0) = ¬ (-20 ≤ t ∧ t ≤ -8) := by
  rw [tk_ld w ht]
  have := List.all_eq_true.mp tk_lev0 (-1 - t).toNat (List.mem_range.mpr (by omega))
  rw [beq_iff_eq] at this
  have e : (tokFd.getD (-1 - t).toNat []).getD (Int.toNat 1) 0 = 0 ↔ ¬ (7 ≤ (-1 - t).toNat ∧ (-1 - t).toNat ≤ 19) := by
    rw [← decide_eq_true_iff (p := _ = _)]
    rw [show decide ((tokFd.getD (-1 - t).toNat []).getD (Int.toNat 1) 0 = 0) = _ from this, Bool.not_eq_true', decide_eq_false_iff_not]
  apply propext
  rw [e]
  omega
theorem tk_nam (w : WF h) {t : Int} (ht : -38 ≤ t ∧ t ≤ -1) : ld h t 2 = if t ≤ -32 then -32 - t else -1 := by
  rw [tk_ld w ht]
  have := of_decide_eq_true (List.all_eq_true.mp tk_nam0 (-1 - t).toNat (List.mem_range.mpr (by omega)))
  refine Eq.trans this ?_
  split <;> split <;> omega
def krv (h : Hp) (q nA : Int) (n : Nat) (k : Int) (l : List Int) : Int := (one1 (krun (fun i => ld h nA i) (fun k => ksort (ld h (q + 1) k)) (fun k => kval (ld h (q + 1) k) (ld h (q + 2) k)) n k l)).getD MINV
theorem krv_some {q nA : Int} {n : Nat} {k : Int} {l l' : List Int} (e : kstep (fun i => ld h nA i) (ksort (ld h (q + 1) k)) (kval (ld h (q + 1) k) (ld h (q + 2) k)) l = some l') : krv h q nA (n + 1) k l = krv h q nA n (k + 1) l' := by
  unfold krv
  conv => lhs; unfold krun
  rw [e]
theorem krv_none {q nA : Int} {n : Nat} {k : Int} {l : List Int} (e : kstep (fun i => ld h nA i) (ksort (ld h (q + 1) k)) (kval (ld h (q + 1) k) (ld h (q + 2) k)) l = none) : krv h q nA (n + 1) k l = MINV := by
  unfold krv
  conv => lhs; unfold krun
  rw [e]
  rfl
theorem krv_1 {q nA k v : Int} : krv h q nA 0 k [v] = v := rfl
theorem krv_0 {q nA k : Int} {l : List Int} (e : l.length ≠ 1) : krv h q nA 0 k l = MINV := by
  match l, e with
  | [], _ => rfl
  | [v], e => exact absurd rfl e
  | a :: b :: r, _ => rfl
/-- what the loop comes to from here -/
def wgo (h : Hp) (q nA : Int) (d n : Nat) (k : Int) (l : List Int) (h1 : Hp) : Prop := ∃ h2, V (d + 2) 82 4 [(2, q), (2, nA), (0, (l.length : Int)), (0, k), (9, 0), (9, 0), (9, 0)] [] h1 = some ((1, krv h q nA n k l), h2) ∧ FrQ q h h2
def wIH (h : Hp) (q nA : Int) (d n : Nat) (k : Int) : Prop := ∀ (l : List Int) (h1 : Hp), FrQ q h h1 → stk h1 (q + 3) l.length = l → (∀ v ∈ l, -LM ≤ v ∧ v ≤ LM) → (l.length : Int) ≤ k + 1 → wgo h q nA d n (k + 1) l h1
section
variable {q nA k : Int} {d n : Nat} {h1 : Hp}
theorem w_push (hq : q ∈ LWL) (f : FrQ q h h1) (hk : 0 ≤ k ∧ k < 64) (ih : wIH h q nA d n k) {l : List Int} {v : Int} (hst : stk h1 (q + 3) l.length = l) (hl : ∀ v ∈ l, -LM ≤ v ∧ v ≤ LM) (hlk : (l.length : Int) ≤ k) (hv : -LM ≤ v ∧ v ≤ LM) :
    ∃ h2, V (d + 2) 82 92 [(2, q), (2, nA), (0, (l.length : Int)), (0, k), (9, 0), (9, 0), (9, 0)] [(1, v), (0, (l.length : Int)), (2, q + 3)] h1 = some ((1, krv h q nA n (k + 1) (v :: l)), h2) ∧ FrQ q h h2 := by
  have w1 := f.1
  have hc : ((v :: l).length : Int) = (l.length : Int) + 1 := by rw [List.length_cons]; omega
  have hst' : stk (st h1 (q + 3) (l.length : Int) v) (q + 3) (v :: l).length = v :: l := by
    show ld (st h1 (q + 3) (l.length : Int) v) (q + 3) (l.length : Int) :: stk (st h1 (q + 3) (l.length : Int) v) (q + 3) l.length = v :: l
    rw [ld_st_eq, stk_st (Int.le_refl _), hst]
  obtain ⟨h2, a, b⟩ := ih (v :: l) (st h1 (q + 3) (l.length : Int) v) (FrQ_st hq f _ _) hst' (fun x hx => (List.mem_cons.mp hx).elim (fun z => by rw [z]; exact hv) (hl x)) (by omega)
  rw [hc] at a
  refine ⟨h2, ?_, b⟩
  have w32k : w32 (k + 1) = k + 1 := by unfold w32; omega
  have w32l : w32 ((l.length : Int) + 1) = (l.length : Int) + 1 := by unfold w32; omega
  rw [e82_92, if_pos (lfW3 w1 hq), lfL3 w1 hq, if_pos ⟨Int.natCast_nonneg _, by omega⟩, e82_210, w32k, w32l]
  exact a
theorem w_not (hq : q ∈ LWL) (f : FrQ q h h1) (hk : 0 ≤ k ∧ k < 64) (ih : wIH h q nA d n k) {r : List Int} {v y : Int} (er : stk h1 (q + 3) r.length = r) (hl : ∀ v ∈ r, -LM ≤ v ∧ v ≤ LM) (hlk : (r.length : Int) + 1 ≤ k) (hv : v = bI (decide (y = 0))) :
    ∃ h2, V (d + 2) 82 141 [(2, q), (2, nA), (0, (r.length : Int) + 1), (0, k), (9, 0), (9, 0), (9, 0)] [(1, v), (0, (r.length : Int)), (2, q + 3)] h1 = some ((1, krv h q nA n (k + 1) (bI (decide (y = 0)) :: r)), h2) ∧ FrQ q h h2 := by
  have w1 := f.1
  rw [← hv]
  have hc : ((v :: r).length : Int) = (r.length : Int) + 1 := by rw [List.length_cons]; omega
  have hst' : stk (st h1 (q + 3) (r.length : Int) v) (q + 3) (v :: r).length = v :: r := by
    show ld (st h1 (q + 3) (r.length : Int) v) (q + 3) (r.length : Int) :: stk (st h1 (q + 3) (r.length : Int) v) (q + 3) r.length = v :: r
    rw [ld_st_eq, stk_st (Int.le_refl _), er]
  have hvb : -LM ≤ v ∧ v ≤ LM := by rw [hv]; cases decide (y = 0) <;> decide
  obtain ⟨h2, a, b⟩ := ih (v :: r) (st h1 (q + 3) (r.length : Int) v) (FrQ_st hq f _ _) hst' (fun x hx => (List.mem_cons.mp hx).elim (fun z => by rw [z]; exact hvb) (hl x)) (by omega)
  rw [hc] at a
  refine ⟨h2, ?_, b⟩
  have w32k : w32 (k + 1) = k + 1 := by unfold w32; omega
  rw [e82_141, if_pos (lfW3 w1 hq), lfL3 w1 hq, if_pos ⟨Int.natCast_nonneg _, by omega⟩, e82_210, w32k]
  exact a
theorem w_bin (hq : q ∈ LWL) (f : FrQ q h h1) (hk : 0 ≤ k ∧ k < 64) (ih : wIH h q nA d n k) {r : List Int} {v : Int} (er : stk h1 (q + 3) r.length = r) (hl : ∀ v ∈ r, -LM ≤ v ∧ v ≤ LM) (hlk : (r.length : Int) + 2 ≤ k) (hv : -LM ≤ v ∧ v ≤ LM) :
    ∃ h2, V (d + 2) 82 200 [(2, q), (2, nA), (0, (r.length : Int) + 1), (0, k), (9, 0), (1, v), (9, 0)] [] h1 = some ((1, krv h q nA n (k + 1) (v :: r)), h2) ∧ FrQ q h h2 := by
  have w1 := f.1
  have hc : ((v :: r).length : Int) = (r.length : Int) + 1 := by rw [List.length_cons]; omega
  have hst' : stk (st h1 (q + 3) (r.length : Int) v) (q + 3) (v :: r).length = v :: r := by
    show ld (st h1 (q + 3) (r.length : Int) v) (q + 3) (r.length : Int) :: stk (st h1 (q + 3) (r.length : Int) v) (q + 3) r.length = v :: r
    rw [ld_st_eq, stk_st (Int.le_refl _), er]
  obtain ⟨h2, a, b⟩ := ih (v :: r) (st h1 (q + 3) (r.length : Int) v) (FrQ_st hq f _ _) hst' (fun x hx => (List.mem_cons.mp hx).elim (fun z => by rw [z]; exact hv) (hl x)) (by omega)
  rw [hc] at a
  refine ⟨h2, ?_, b⟩
  have w32k : w32 (k + 1) = k + 1 := by unfold w32; omega
  have hwb : w32 ((r.length : Int) + 1 - 1) = (r.length : Int) := by unfold w32; omega
  rw [e82_200, if_pos (lfF0 w1 hq), lfP2 w1 hq, if_pos (lfW3 w1 hq), lfL3 w1 hq, hwb, if_pos ⟨Int.natCast_nonneg _, by omega⟩, e82_210, w32k]
  exact a
theorem w_step (hq : q ∈ LWL) (hn : okF h nA 0 = true ∧ len h nA = 7) (hne : nA ≠ q + 3) (f : FrQ q h h1) (hk : 0 ≤ k ∧ k < 64) (hkN : k < ld h q 3) (ht : -38 ≤ ld h (q + 1) k ∧ ld h (q + 1) k ≤ -1) (hnum : -LM ≤ ld h (q + 2) k ∧ ld h (q + 2) k ≤ LM) (HN : ∀ i : Int, 0 ≤ i → i < 7 → -LM ≤ ld h nA i ∧ ld h nA i ≤ LM) (ih : wIH h q nA d n k) {l : List Int} (hst : stk h1 (q + 3) l.length = l) (hl : ∀ v ∈ l, -LM ≤ v ∧ v ≤ LM) (hlk : (l.length : Int) ≤ k) : wgo h q nA d (n + 1) k l h1 := by
  have hLM : LM = 1000000000000 := rfl
  have w1 := f.1
  have eL : ld h1 q 3 = ld h q 3 := f.2.2 q 3 (by omega)
  have e1 : ld h1 (q + 1) k = ld h (q + 1) k := f.2.2 _ k (by omega)
  have e2 : ld h1 (q + 2) k = ld h (q + 2) k := f.2.2 _ k (by omega)
  have eN : ∀ j, ld h1 nA j = ld h nA j := fun j => f.2.2 _ j hne
  have okn : okF h1 nA 0 = true := by unfold okF shp at hn ⊢; rw [f.2.1]; exact hn.1
  have lnn : len h1 nA = 7 := by unfold len shp at hn ⊢; rw [f.2.1]; exact hn.2
  unfold wgo
  rw [e82_4, if_pos (lfF0 w1 hq), eL, if_pos hkN, if_pos hk.2, e82_18, if_pos (lfF0 w1 hq), lfP0 w1 hq, if_pos (lfF1 w1 hq), lfL1 w1 hq, if_pos hk, e1]
  generalize htt : ld h (q + 1) k = t at ht
  rw [if_neg (show ¬ t = 0 by omega), e82_35, if_pos (tk_F ht)]
  by_cases hop : -20 ≤ t ∧ t ≤ -8
  · have hs : ksort (ld h (q + 1) k) = 2 := by rw [htt]; exact if_pos hop
    have hvl : kval (ld h (q + 1) k) (ld h (q + 2) k) = tokOp (-1 - t).toNat := by rw [htt]; exact if_pos hop
    rw [if_neg (by rw [tk_lev w1 ht]; exact fun z => z hop), e82_99, if_pos ⟨by unfold isTok; exact decide_eq_true ht, by decide⟩]
    by_cases hnot : t = -20
    · have h260 : tokOp (-1 - t).toNat = 260 := by rw [hnot]; rfl
      rw [if_pos hnot]
      match l, hst, hl, hlk with
      | [], _, _, _ =>
        refine ⟨h1, ?_, f⟩
        rw [if_pos (by decide), e82_112, krv_none (by rw [hs, hvl, h260]; rfl)]; rfl
      | y :: r, hst, hl, hlk =>
        obtain ⟨ey, er⟩ := List.cons.inj hst
        have ey : ld h1 (q + 3) (r.length : Int) = y := ey
        have hlen : ((y :: r).length : Int) = (r.length : Int) + 1 := by rw [List.length_cons]; omega
        rw [hlen] at hlk
        have hw : w32 ((r.length : Int) + 1 - 1) = (r.length : Int) := by unfold w32; omega
        have hks : kstep (fun i => ld h nA i) (ksort (ld h (q + 1) k)) (kval (ld h (q + 1) k) (ld h (q + 2) k)) (y :: r) = some (bI (decide (y = 0)) :: r) := by rw [hs, hvl, h260]; rfl
        rw [if_neg (by rw [hlen]; omega), hlen, krv_some hks, e82_116, if_pos (lfF0 w1 hq), if_pos (lfF0 w1 hq), lfP2 w1 hq, if_pos (lfF3 w1 hq), lfL3 w1 hq, hw, if_pos ⟨Int.natCast_nonneg _, by omega⟩, ey, e82_140]
        simp only [lcm_e]
        by_cases hy : y = 0
        · rw [if_pos hy]; exact w_not hq f hk ih er (fun x hx => hl x (List.mem_cons_of_mem _ hx)) hlk (by rw [hy]; rfl)
        · rw [if_neg hy]; exact w_not hq f hk ih er (fun x hx => hl x (List.mem_cons_of_mem _ hx)) hlk (by simp [hy, bI])
    · have h260 : ¬ tokOp (-1 - t).toNat = 260 := by
        have h12 : t = -8 ∨ t = -9 ∨ t = -10 ∨ t = -11 ∨ t = -12 ∨ t = -13 ∨ t = -14 ∨ t = -15 ∨ t = -16 ∨ t = -17 ∨ t = -18 ∨ t = -19 := by omega
        rcases h12 with rfl | rfl | rfl | rfl | rfl | rfl | rfl | rfl | rfl | rfl | rfl | rfl <;> decide
      rw [if_neg hnot, e82_145]
      match l, hst, hl, hlk with
      | [], _, _, _ =>
        refine ⟨h1, ?_, f⟩
        rw [if_pos (by decide), krv_none (by rw [hs, hvl]; unfold kstep; rw [if_neg (by decide), if_neg (by decide), if_neg h260])]; rfl
      | [y], _, _, _ =>
        refine ⟨h1, ?_, f⟩
        rw [if_pos (by show (1 : Int) < 2; decide), krv_none (by rw [hs, hvl]; unfold kstep; rw [if_neg (by decide), if_neg (by decide), if_neg h260])]; rfl
      | y :: x :: r, hst, hl, hlk =>
        obtain ⟨ey, er⟩ := List.cons.inj hst
        obtain ⟨ex, er⟩ := List.cons.inj er
        have ey : ld h1 (q + 3) (((x :: r).length : Nat) : Int) = y := ey
        have hl1 : (((x :: r).length : Nat) : Int) = (r.length : Int) + 1 := by rw [List.length_cons]; omega
        rw [hl1] at ey
        have ex : ld h1 (q + 3) (r.length : Int) = x := ex
        have hlen : ((y :: x :: r).length : Int) = (r.length : Int) + 2 := by rw [List.length_cons]; omega
        rw [hlen] at hlk
        have hwa : w32 ((r.length : Int) + 2 + -1) = (r.length : Int) + 1 := by unfold w32; omega
        have hwb : w32 ((r.length : Int) + 1 - 1) = (r.length : Int) := by unfold w32; omega
        obtain ⟨rr, hr1, hr2⟩ := kq_83 w1 (t := t) (x := x) (y := y) ⟨by omega, hop.2⟩ (hl x (List.mem_cons_of_mem _ List.mem_cons_self)) (hl y List.mem_cons_self) d
        rw [if_neg (by rw [hlen]; omega), hlen, e82_154, if_pos (lfF0 w1 hq), lfP2 w1 hq, if_pos (lfF3 w1 hq), lfL3 w1 hq, hwa, hwb, if_pos ⟨Int.natCast_nonneg _, by omega⟩, if_pos (lfF0 w1 hq), if_pos (lfF3 w1 hq), if_pos ⟨by omega, by omega⟩, ex, ey, Cl_eq _ hr1, e82_178]
        simp only [lcm_g, lcm_l]
        cases hj : jn (tokOp (-1 - t).toNat) x y with
        | none =>
          rw [hj] at hr2
          have hr2 : LM < rr ∨ rr < -LM := hr2
          refine ⟨h1, ?_, f⟩
          rw [krv_none (by rw [hs, hvl]; unfold kstep; rw [if_neg (by decide), if_neg (by decide), if_neg h260]; show (match jn (tokOp (-1 - t).toNat) x y with | some v => some (v :: r) | none => none) = none; rw [hj])]
          by_cases c1 : (1000000000000 : Int) < rr
          · rw [if_pos c1, e82_196]; rfl
          · rw [if_neg c1, if_pos (show rr < -1000000000000 by omega), e82_196]; rfl
        | some v =>
          rw [hj] at hr2
          obtain ⟨rfl, hr3, hr4⟩ : rr = v ∧ -LM ≤ v ∧ v ≤ LM := hr2
          rw [if_neg (show ¬ (1000000000000 : Int) < rr by omega), if_neg (show ¬ rr < -1000000000000 by omega),
            krv_some (l' := rr :: r) (by rw [hs, hvl]; unfold kstep; rw [if_neg (by decide), if_neg (by decide), if_neg h260]; show (match jn (tokOp (-1 - t).toNat) x y with | some v => some (v :: r) | none => none) = _; rw [hj])]
          exact w_bin hq f hk ih er (fun z hz => hl z (List.mem_cons_of_mem _ (List.mem_cons_of_mem _ hz))) hlk ⟨hr3, hr4⟩
  · rw [if_pos (by rw [tk_lev w1 ht]; exact hop), if_pos (show (l.length : Int) < 64 by omega), e82_53, if_pos (tk_F ht), if_pos (lfF0 w1 hq), tk_nam w1 ht]
    by_cases hname : t ≤ -32
    · have hs : ksort (ld h (q + 1) k) = 1 := by rw [htt]; unfold ksort; rw [if_neg hop, if_pos ⟨ht.1, hname⟩]
      have hvl : kval (ld h (q + 1) k) (ld h (q + 2) k) = -32 - t := by rw [htt]; unfold kval; rw [if_neg hop, if_pos ⟨ht.1, hname⟩]
      rw [krv_some (l' := ld h nA (-32 - t) :: l) (by rw [hs, hvl]; unfold kstep; rw [if_neg (by decide), if_pos rfl]), if_pos hname, if_neg (show ¬ -32 - t < 0 by omega), if_pos okn, lnn, if_pos (show -32 - t < 7 by omega), if_pos okn, if_pos ⟨by omega, by omega⟩, eN, lfP2 w1 hq]
      exact w_push hq f hk ih hst hl hlk (HN _ (by omega) (by omega))
    · have hs : ksort (ld h (q + 1) k) = 0 := by rw [htt]; unfold ksort; rw [if_neg hop, if_neg (fun z => hname z.2)]
      have hvl : kval (ld h (q + 1) k) (ld h (q + 2) k) = ld h (q + 2) k := by rw [htt]; unfold kval; rw [if_neg hop, if_neg (fun z => hname z.2)]
      rw [krv_some (l' := ld h (q + 2) k :: l) (by rw [hs, hvl]; unfold kstep; rw [if_pos rfl]), if_neg hname, if_pos (by decide), lfP2 w1 hq, e82_85, if_pos (lfF0 w1 hq), lfP1 w1 hq, if_pos (lfF2 w1 hq), lfL2 w1 hq, if_pos hk, e2]
      exact w_push hq f hk ih hst hl hlk hnum
end
theorem worth_lp (w : WF h) {q nA : Int} (hq : q ∈ LWL) (hn : okF h nA 0 = true ∧ len h nA = 7) (hne : nA ≠ q + 3) (hN : 0 ≤ ld h q 3 ∧ ld h q 3 ≤ 64)
    (HK : ∀ k : Int, 0 ≤ k → k < ld h q 3 → (-38 ≤ ld h (q + 1) k ∧ ld h (q + 1) k ≤ -1) ∧ -LM ≤ ld h (q + 2) k ∧ ld h (q + 2) k ≤ LM) (HN : ∀ i : Int, 0 ≤ i → i < 7 → -LM ≤ ld h nA i ∧ ld h nA i ≤ LM) (d : Nat) :
    ∀ (n : Nat) (k : Int) (l : List Int) (h1 : Hp), FrQ q h h1 → 0 ≤ k → k + n = ld h q 3 → stk h1 (q + 3) l.length = l → (∀ v ∈ l, -LM ≤ v ∧ v ≤ LM) → (l.length : Int) ≤ k → wgo h q nA d n k l h1 := by
  intro n
  induction n with
  | zero =>
    intro k l h1 f hk0 hkn hst hl hlk
    have w1 := f.1
    have eL : ld h1 q 3 = ld h q 3 := f.2.2 q 3 (by omega)
    unfold wgo
    rw [e82_4, if_pos (lfF0 w1 hq), eL, if_neg (show ¬ k < ld h q 3 by omega), e82_216]
    by_cases h1l : l.length = 1
    · match l, hst, h1l with
      | [v], hst, _ =>
        have ev : ld h1 (q + 3) 0 = v := (List.cons.inj hst).1
        refine ⟨h1, ?_, f⟩
        rw [if_pos (by rfl), if_pos (lfF0 w1 hq), lfP2 w1 hq, if_pos (lfF3 w1 hq), lfL3 w1 hq, if_pos ⟨by decide, by decide⟩, e82_233, ev, krv_1]
    · refine ⟨h1, ?_, f⟩
      rw [if_neg (by omega), e82_230, e82_233, krv_0 h1l]; rfl
  | succ n ih =>
    intro k l h1 f hk0 hkn hst hl hlk
    obtain ⟨ht, hv⟩ := HK k hk0 (by omega)
    exact w_step hq hn hne f ⟨hk0, by omega⟩ (by omega) ht hv HN (fun l' h1' f' s' b' c' => ih (k + 1) l' h1' f' (by omega) (by omega) s' b' c') hst hl hlk
theorem kq_82 (w : WF h) {q nA : Int} (hq : q ∈ LWL) (hn : okF h nA 0 = true ∧ len h nA = 7) (hne : nA ≠ q + 3) (hN : 0 ≤ ld h q 3 ∧ ld h q 3 ≤ 64)
    (HK : ∀ k : Int, 0 ≤ k → k < ld h q 3 → (-38 ≤ ld h (q + 1) k ∧ ld h (q + 1) k ≤ -1) ∧ -LM ≤ ld h (q + 2) k ∧ ld h (q + 2) k ≤ LM) (HN : ∀ i : Int, 0 ≤ i → i < 7 → -LM ≤ ld h nA i ∧ ld h nA i ≤ LM) (d : Nat) :
    ∃ h2, C (d + 2) 82 [(2, q), (2, nA)] h = some ((1, (evl (fun i => ld h nA i) (fun k => ksort (ld h (q + 1) k)) (fun k => kval (ld h (q + 1) k) (ld h (q + 2) k)) (ld h q 3).toNat).getD MINV), h2) ∧ FrQ q h h2 := by
  obtain ⟨h2, a, b⟩ := worth_lp w hq hn hne hN HK HN d (ld h q 3).toNat 0 [] h ⟨w, rfl, fun _ _ _ => rfl⟩ (by decide) (by omega) rfl (fun v hv => absurd hv List.not_mem_nil) (by decide)
  refine ⟨h2, ?_, b⟩
  rw [ce_82, e82_0]
  exact a
end WO
