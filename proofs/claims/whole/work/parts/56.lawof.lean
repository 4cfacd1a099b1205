/-! layer 2: a law of a piece, price, pick, limit -/
/-- a state with its book, as every query finds them -/
def CK (h : Hp) (s b : Int) : Prop := WF h ∧ s ∈ STL ∧ b ∈ BKL ∧ ld h s 0 = b ∧ TOK (tC h b) ∧ CB h b ∧ (∀ f i, I32 (tC h b f i)) ∧ ∀ f i, I32 (sV h s b f i)
theorem sV_eq {h h' : Hp} {s b : Int} (eb : EqB h h' b) (es : EqS h h' s) : sV h' s b = sV h s b := by
  unfold sV
  rw [EqB_0 eb, EqB_0 eb, sC_eq es]
theorem CK_eq {h h' : Hp} {s b : Int} (c : CK h s b) (w : WF h') (eb : EqB h h' b) (es : EqS h h' s) : CK h' s b := by
  obtain ⟨-, c2, c3, c4, c5, c6, c7, c8⟩ := c
  exact ⟨w, c2, c3, by rw [EqS_0 es]; exact c4, by rw [tC_eq eb]; exact c5, CB_eq eb c6, by rw [tC_eq eb]; exact c7, by rw [sV_eq eb es]; exact c8⟩
theorem CK_fr {h h' : Hp} {s b : Int} (c : CK h s b) (f : FrS h h') : CK h' s b ∧ tC h' b = tC h b ∧ sV h' s b = sV h s b :=
  ⟨CK_eq c f.1 (FrS_B f c.2.2.1) (FrS_S f c.2.1), tC_eq (FrS_B f c.2.2.1), sV_eq (FrS_B f c.2.2.1) (FrS_S f c.2.1)⟩
theorem scr_7 {s : Int} (hs : s ∈ STL) : scr (s + 7) = true := by
  have := List.all_eq_true.mp scr_s s hs
  rw [Bool.and_eq_true] at this
  exact this.1
theorem Fr_nm {h h1 : Hp} {s : Int} (hs : s ∈ STL) (f : FrS h h1) (j v : Int) : FrS h (st h1 (s + 7) j v) := FrS_tr f (FrS_st f.1 (scr_7 hs) (nfam_at sf_nA hs (by decide) j))
theorem FrQ_S {q : Int} (hq : q ∈ LWL) {h h1 : Hp} (f : FrQ q h h1) : FrS h h1 := ⟨f.1, f.2.1, fun a j e => f.2.2 a j (fun z => by
  have := List.all_eq_true.mp scr_q q hq
  rw [z, this] at e; cases e)⟩
theorem w32_I (x : Int) : I32 (w32 x) := by unfold I32 w32; omega
theorem I32_LM {x : Int} (h : I32 x) : -LM ≤ x ∧ x ≤ LM := by unfold I32 at h; have : LM = 1000000000000 := rfl; omega
theorem owned_I (T S : Wd) (hT : TOK T) (s : Int) : 0 ≤ sOwned T S s ∧ sOwned T S s ≤ 10 := by
  have := cnf_bd (fun p => decide (S 9 p = s)) (T 2 0).toNat 0 0
  have h2 := hT.2.2.1
  unfold sOwned
  omega
theorem max243 {h : Hp} (d : Nat) (a b : Int) : C d 243 [(0, a), (0, b)] h = some ((0, imax a b), h) := by
  rw [ce_243, e243_0, e243_9, e243_10, e243_10]
  unfold imax
  by_cases q : a < b
  · rw [if_pos q, if_pos q]
  · rw [if_neg q, if_neg q]
theorem min245 {h : Hp} (d : Nat) (a b : Int) : C d 245 [(0, a), (0, b)] h = some ((0, imin a b), h) := by
  rw [ce_245, e245_0, e245_9, e245_10, e245_10]
  unfold imin
  by_cases q : b < a
  · rw [if_pos q, if_pos q]
  · rw [if_neg q, if_neg q]
theorem max244 {h : Hp} (d : Nat) (a b : Int) : C d 244 [(1, a), (1, b)] h = some ((1, imax a b), h) := by
  rw [ce_244, e244_0, e244_10, e244_11, e244_11]
  simp only [lcm_l]
  unfold imax
  by_cases q : a < b
  · rw [if_pos q, if_pos q]
  · rw [if_neg q, if_neg q]
theorem min246 {h : Hp} (d : Nat) (a b : Int) : C d 246 [(1, a), (1, b)] h = some ((1, imin a b), h) := by
  rw [ce_246, e246_0, e246_10, e246_11, e246_11]
  simp only [lcm_g]
  unfold imin
  by_cases q : b < a
  · rw [if_pos q, if_pos q]
  · rw [if_neg q, if_neg q]
theorem lwl_b : BKL.all (fun b => [(0 : Int), 1, 2].all (fun k => decide (b + 18 + 4 * k ∈ LWL))) = true := by decide +kernel
theorem nm_ne : STL.all (fun s => LWL.all (fun q => decide (s + 7 ≠ q + 3))) = true := by decide +kernel
section LO
variable {h : Hp} {s b : Int}
/-- the seven names -/
def nm7 (h : Hp) (a v0 v1 v2 v3 v4 v5 v6 : Int) : Hp := st (st (st (st (st (st (st h a 0 v0) a 1 v1) a 2 v2) a 3 v3) a 4 v4) a 5 v5) a 6 v6
theorem nm7_ld (a v0 v1 v2 v3 v4 v5 v6 : Int) {i : Int} (hi : 0 ≤ i ∧ i < 7) : ld (nm7 h a v0 v1 v2 v3 v4 v5 v6) a i = if i = 0 then v0 else if i = 1 then v1 else if i = 2 then v2 else if i = 3 then v3 else if i = 4 then v4 else if i = 5 then v5 else v6 := by
  unfold nm7
  have h7 : i = 0 ∨ i = 1 ∨ i = 2 ∨ i = 3 ∨ i = 4 ∨ i = 5 ∨ i = 6 := by omega
  rcases h7 with rfl | rfl | rfl | rfl | rfl | rfl | rfl <;> simp [ld_st]
theorem kq_96 (c : CK h s b) {p one : Int} (hp : 0 ≤ p ∧ p < ld h b 11) (ho : 0 ≤ one ∧ one < ld h b 4) {k : Nat} (hk : k < 3) (d : Nat) :
    ∃ h', C (d + 3) 96 [(2, s), (0, (k : Int)), (0, p), (0, one)] h = some ((1, (lwV (tC h b) (sV h s b) k p one).getD MINV), h') ∧ FrS h h' := by
  obtain ⟨w, hs, hb, e, hT, hCB, hTi, hSi⟩ := id c
  have hTr : tC h b = tC h b := rfl
  have b4 : 0 ≤ ld h b 4 ∧ ld h b 4 ≤ 5 := hT.2.1
  have b11 : 0 ≤ ld h b 11 ∧ ld h b 11 ≤ 10 := hT.2.2.1
  have hq1 : qPie (tC h b) p = true := qPie_iff.mpr hp
  have hq2 : qSit (tC h b) one = true := qSit_iff.mpr ho
  rw [ce_96, e96_0, if_neg (by omega), if_pos (by omega), e96_9, if_pos (sfF0 w hs), e, if_pos (bfF0 w hb), Cl_eq _ (kq_68 w hb (d + 2) p), hq1, if_neg (by decide), e96_20, if_pos (sfF0 w hs), e, if_pos (bfF0 w hb), Cl_eq _ (kq_67 w hb (d + 2) one), hq2, if_neg (by decide),
    e96_35, if_pos (sfF0 w hs), if_pos (sfF0 w hs), e, if_pos (bfF0 w hb), Cl_eq _ (kq_77 w hb hT (d + 1) hp), sfP13 w hs, if_pos (sfW7 w hs), sfL7 w hs, if_pos ⟨by decide, by decide⟩]
  -- step by step: the names
  have f1 := Fr_nm hs (FrS_rf w) 0 (tBase (tC h b) p)
  generalize hh1 : st h (s + 7) 0 (tBase (tC h b) p) = h1 at f1
  obtain ⟨c1, t1, s1⟩ := CK_fr c f1
  obtain ⟨w1, -, -, e1, hT1, -⟩ := id c1
  have p1 : ld h1 b 11 = ld h b 11 := congrFun (congrFun t1 2) 0
  have q1 : ld h1 b 4 = ld h b 4 := congrFun (congrFun t1 1) 0
  rw [e96_49, if_pos (sfF0 w1 hs), if_pos (sfF0 w1 hs), e1, if_pos (bfF0 w1 hb), Cl_eq _ (kq_78 w1 hb hT1 (d + 1) (by rw [p1]; exact hp)), if_pos (sfF0 w1 hs), sfP8 w1 hs, if_pos (sfF3 w1 hs), sfL3 w1 hs, if_pos ⟨by omega, by omega⟩, sfP13 w1 hs, if_pos (sfW7 w1 hs), sfL7 w1 hs, if_pos ⟨by decide, by decide⟩,
    sC_8 (h := h1) (s := s) (ns := ld h1 b 4) (np := ld h1 b 11) (by rw [p1]; exact hp), show sC h1 s (ld h1 b 4) (ld h1 b 11) = sV h s b from s1, t1]
  have f2 := Fr_nm hs f1 1 (w32 (tSize (tC h b) p - sV h s b 8 p))
  generalize hh2 : st h1 (s + 7) 1 (w32 (tSize (tC h b) p - sV h s b 8 p)) = h2 at f2
  obtain ⟨c2, t2, s2⟩ := CK_fr c f2
  obtain ⟨w2, -, -, e2, hT2, -⟩ := id c2
  have p2 : ld h2 b 11 = ld h b 11 := congrFun (congrFun t2 2) 0
  have q2 : ld h2 b 4 = ld h b 4 := congrFun (congrFun t2 1) 0
  rw [e96_70, if_pos (sfF0 w2 hs), if_pos (sfF0 w2 hs), sfP6 w2 hs, if_pos (sfF1 w2 hs), sfL1 w2 hs, if_pos ⟨by omega, by omega⟩, sfP13 w2 hs, if_pos (sfW7 w2 hs), sfL7 w2 hs, if_pos ⟨by decide, by decide⟩,
    sC_6 (h := h2) (s := s) (ns := ld h2 b 4) (np := ld h2 b 11) (by rw [q2]; exact ho), show sC h2 s (ld h2 b 4) (ld h2 b 11) = sV h s b from s2]
  have f3 := Fr_nm hs f2 2 (sV h s b 6 one)
  generalize hh3 : st h2 (s + 7) 2 (sV h s b 6 one) = h3 at f3
  obtain ⟨c3, t3, s3⟩ := CK_fr c f3
  obtain ⟨w3, -, -, e3, hT3, -⟩ := id c3
  rw [e96_82, if_pos (sfF0 w3 hs), if_pos (sfF0 w3 hs), Cl_eq _ (kq_97 w3 hs hb e3 hT3 (d + 2) one), sfP13 w3 hs, if_pos (sfW7 w3 hs), sfL7 w3 hs, if_pos ⟨by decide, by decide⟩, t3, s3]
  have f4 := Fr_nm hs f3 3 (sOwned (tC h b) (sV h s b) one)
  generalize hh4 : st h3 (s + 7) 3 (sOwned (tC h b) (sV h s b) one) = h4 at f4
  obtain ⟨c4, t4, s4⟩ := CK_fr c f4
  obtain ⟨w4, -⟩ := id c4
  rw [e96_93, if_pos (sfF0 w4 hs), if_pos (sfF0 w4 hs), sfP13 w4 hs, if_pos (sfW7 w4 hs), sfL7 w4 hs, if_pos ⟨by decide, by decide⟩, show ld h4 s 1 = sV h s b 0 0 from congrFun (congrFun s4 0) 0]
  have f5 := Fr_nm hs f4 4 (sV h s b 0 0)
  generalize hh5 : st h4 (s + 7) 4 (sV h s b 0 0) = h5 at f5
  obtain ⟨c5, t5, s5⟩ := CK_fr c f5
  obtain ⟨w5, -, -, e5, hT5, -⟩ := id c5
  have p5 : ld h5 b 11 = ld h b 11 := congrFun (congrFun t5 2) 0
  rw [e96_103, if_pos (sfF0 w5 hs), if_pos (sfF0 w5 hs), e5, if_pos (bfF0 w5 hb), bfP14 w5 hb, if_pos (bfF11 w5 hb), bfL11 w5 hb, if_pos ⟨by omega, by omega⟩, if_pos (sfF0 w5 hs), tC_14 (h := h5) (by rw [p5]; exact hp), t5, show ld h5 s 1 = sV h s b 0 0 from congrFun (congrFun s5 0) 0, Cl_eq _ (max243 (d + 2) _ _), sfP13 w5 hs, if_pos (sfW7 w5 hs), sfL7 w5 hs, if_pos ⟨by decide, by decide⟩]
  have f6 := Fr_nm hs f5 5 (imax 0 (w32 (tC h b 14 p - sV h s b 0 0)))
  generalize hh6 : st h5 (s + 7) 5 (imax 0 (w32 (tC h b 14 p - sV h s b 0 0))) = h6 at f6
  obtain ⟨c6, t6, s6⟩ := CK_fr c f6
  obtain ⟨w6, -⟩ := id c6
  have p6 : ld h6 b 11 = ld h b 11 := congrFun (congrFun t6 2) 0
  rw [e96_127, if_pos (sfF0 w6 hs), if_pos (sfF0 w6 hs), sfP7 w6 hs, if_pos (sfF2 w6 hs), sfL2 w6 hs, if_pos ⟨by omega, by omega⟩, sfP13 w6 hs, if_pos (sfW7 w6 hs), sfL7 w6 hs, if_pos ⟨by decide, by decide⟩,
    sC_7 (h := h6) (s := s) (ns := ld h6 b 4) (np := ld h6 b 11) (by rw [p6]; exact hp), show sC h6 s (ld h6 b 4) (ld h6 b 11) = sV h s b from s6]
  have f7 := Fr_nm hs f6 6 (sV h s b 7 p)
  generalize hh7 : st h6 (s + 7) 6 (sV h s b 7 p) = h7 at f7
  obtain ⟨c7, t7, s7⟩ := CK_fr c f7
  obtain ⟨w7, -, -, e7, hT7, hCB7, hTi7, -⟩ := id c7
  have hnm : ∀ i, 0 ≤ i → i < 7 → ld h7 (s + 7) i = nmV (tC h b) (sV h s b) p one i := fun i i0 i7 => by
    rw [← hh7, ← hh6, ← hh5, ← hh4, ← hh3, ← hh2, ← hh1]
    exact nm7_ld (h := h) (s + 7) _ _ _ _ _ _ _ ⟨i0, i7⟩
  have hki : (k : Int) = 0 ∨ (k : Int) = 1 ∨ (k : Int) = 2 := by omega
  have hq : b + 18 + 4 * (k : Int) ∈ LWL := of_decide_eq_true (List.all_eq_true.mp (List.all_eq_true.mp lwl_b b hb) k (by rcases hki with z | z | z <;> rw [z] <;> decide))
  have hlaw : ld h7 (b + 17) (k : Int) = b + 18 + 4 * (k : Int) := by
    rcases hki with z | z | z <;> rw [z]
    · rw [bfP0_17 w7 hb]; omega
    · rw [bfP1_17 w7 hb]; omega
    · rw [bfP2_17 w7 hb]; omega
  have hne : s + 7 ≠ b + 18 + 4 * (k : Int) + 3 := of_decide_eq_true (List.all_eq_true.mp (List.all_eq_true.mp nm_ne s hs) _ hq)
  obtain ⟨hN, hK⟩ := hCB7 (k : Int) (by omega) (by omega)
  have e19 : b + 18 + 4 * (k : Int) + 1 = b + 19 + 4 * (k : Int) := by omega
  have e20 : b + 18 + 4 * (k : Int) + 2 = b + 20 + 4 * (k : Int) := by omega
  obtain ⟨h8, a8, f8⟩ := kq_82 w7 hq ⟨sfF7 w7 hs, sfL7 w7 hs⟩ hne hN (fun i i0 i1 => by rw [e19, e20]; exact ⟨(hK i i0 i1).1, I32_LM (hK i i0 i1).2⟩) (fun i i0 i1 => by
    rw [hnm i i0 i1]
    apply I32_LM
    have ow := owned_I (tC h b) (sV h s b) hT one
    unfold nmV
    have h7 : i = 0 ∨ i = 1 ∨ i = 2 ∨ i = 3 ∨ i = 4 ∨ i = 5 ∨ i = 6 := by omega
    rcases h7 with rfl | rfl | rfl | rfl | rfl | rfl | rfl
    · exact hTi 5 _
    · exact w32_I _
    · exact hSi 6 _
    · unfold I32; simp only [Int.reduceEq, if_false, if_true, reduceIte]; omega
    · exact hSi 0 0
    · have := w32_I (tC h b 14 p - sV h s b 0 0)
      simp only [Int.reduceEq, if_false, if_true, reduceIte]
      unfold imax; split
      · exact this
      · unfold I32; omega
    · exact hSi 7 _) d
  refine ⟨h8, ?_, FrS_tr f7 (FrQ_S hq f8)⟩
  rw [e96_140, if_pos (sfF0 w7 hs), e7, if_pos (bfF0 w7 hb), bfP19 w7 hb, if_pos (bfF17 w7 hb), bfL17 w7 hb, if_pos ⟨by omega, by omega⟩, if_pos (sfF0 w7 hs), hlaw, if_pos (lfF0 w7 hq), sfP13 w7 hs, Cl_eq _ a8]
  have hev : evl (fun i => ld h7 (s + 7) i) (fun i => ksort (ld h7 (b + 18 + 4 * (k : Int) + 1) i)) (fun i => kval (ld h7 (b + 18 + 4 * (k : Int) + 1) i) (ld h7 (b + 18 + 4 * (k : Int) + 2) i)) (ld h7 (b + 18 + 4 * (k : Int)) 3).toNat = lwV (tC h b) (sV h s b) k p one := by
    unfold lwV
    rw [e19, e20, ← t7]
    have hlen : tC h7 b (19 + k) 0 = ld h7 (b + 18 + 4 * (k : Int)) 3 := by
      have h3 : k = 0 ∨ k = 1 ∨ k = 2 := by omega
      rcases h3 with rfl | rfl | rfl
      · show ld h7 (b + 18) 3 = _; congr 1; omega
      · show ld h7 (b + 22) 3 = _; congr 1; omega
      · show ld h7 (b + 26) 3 = _; congr 1; omega
    rw [hlen]
    refine evl_cong (fun i i0 i1 => ?_)
    have i1 : i < ld h7 (b + 18 + 4 * (k : Int)) 3 := by omega
    have r1 : tC h7 b (22 + 2 * k) i = ksort (ld h7 (b + 19 + 4 * (k : Int)) i) := by
      have h3 : k = 0 ∨ k = 1 ∨ k = 2 := by omega
      rcases h3 with rfl | rfl | rfl
      · refine (rng_in (show 0 ≤ i ∧ i < ld h7 (b + 18) 3 from ⟨i0, by have := i1; rw [show b + 18 + 4 * ((0 : Nat) : Int) = b + 18 by omega] at this; exact this⟩)).trans ?_
        rw [show b + 19 + 4 * ((0 : Nat) : Int) = b + 19 by omega]
      · refine (rng_in (show 0 ≤ i ∧ i < ld h7 (b + 22) 3 from ⟨i0, by have := i1; rw [show b + 18 + 4 * ((1 : Nat) : Int) = b + 22 by omega] at this; exact this⟩)).trans ?_
        rw [show b + 19 + 4 * ((1 : Nat) : Int) = b + 23 by omega]
      · refine (rng_in (show 0 ≤ i ∧ i < ld h7 (b + 26) 3 from ⟨i0, by have := i1; rw [show b + 18 + 4 * ((2 : Nat) : Int) = b + 26 by omega] at this; exact this⟩)).trans ?_
        rw [show b + 19 + 4 * ((2 : Nat) : Int) = b + 27 by omega]
    have r2 : tC h7 b (23 + 2 * k) i = kval (ld h7 (b + 19 + 4 * (k : Int)) i) (ld h7 (b + 20 + 4 * (k : Int)) i) := by
      have h3 : k = 0 ∨ k = 1 ∨ k = 2 := by omega
      rcases h3 with rfl | rfl | rfl
      · refine (rng_in (show 0 ≤ i ∧ i < ld h7 (b + 18) 3 from ⟨i0, by have := i1; rw [show b + 18 + 4 * ((0 : Nat) : Int) = b + 18 by omega] at this; exact this⟩)).trans ?_
        rw [show b + 19 + 4 * ((0 : Nat) : Int) = b + 19 by omega, show b + 20 + 4 * ((0 : Nat) : Int) = b + 20 by omega]
      · refine (rng_in (show 0 ≤ i ∧ i < ld h7 (b + 22) 3 from ⟨i0, by have := i1; rw [show b + 18 + 4 * ((1 : Nat) : Int) = b + 22 by omega] at this; exact this⟩)).trans ?_
        rw [show b + 19 + 4 * ((1 : Nat) : Int) = b + 23 by omega, show b + 20 + 4 * ((1 : Nat) : Int) = b + 24 by omega]
      · refine (rng_in (show 0 ≤ i ∧ i < ld h7 (b + 26) 3 from ⟨i0, by have := i1; rw [show b + 18 + 4 * ((2 : Nat) : Int) = b + 26 by omega] at this; exact this⟩)).trans ?_
        rw [show b + 19 + 4 * ((2 : Nat) : Int) = b + 27 by omega, show b + 20 + 4 * ((2 : Nat) : Int) = b + 28 by omega]
    rw [r1, r2]
    refine ⟨rfl, rfl, fun z => ?_⟩
    have := kval_nm (n := ld h7 (b + 20 + 4 * (k : Int)) i) z
    rw [hnm _ this.1 this.2, t7]
  rw [hev]
/-- where the law can't be asked -/
theorem kq_96n (c : CK h s b) {p one k : Int} (hn : ¬ ((0 ≤ k ∧ k < 3) ∧ (0 ≤ p ∧ p < ld h b 11) ∧ 0 ≤ one ∧ one < ld h b 4)) (d : Nat) : C (d + 1) 96 [(2, s), (0, k), (0, p), (0, one)] h = some ((1, MINV), h) := by
  obtain ⟨w, hs, hb, e, hT, -⟩ := id c
  rw [ce_96, e96_0]
  simp only [e96_31]
  by_cases k0 : k < 0
  · rw [if_pos k0]; rfl
  · rw [if_neg k0]
    by_cases k3 : k < 3
    · rw [if_pos k3, e96_9, if_pos (sfF0 w hs), e, if_pos (bfF0 w hb), Cl_eq _ (kq_68 w hb d p)]
      simp only [e96_31, bI_e0]
      by_cases hp : qPie (tC h b) p = false
      · rw [if_pos hp]; rfl
      · rw [if_neg hp, e96_20, if_pos (sfF0 w hs), e, if_pos (bfF0 w hb), Cl_eq _ (kq_67 w hb d one)]
        simp only [e96_31, bI_e0]
        have hp1 : 0 ≤ p ∧ p < ld h b 11 := qPie_iff.mp (by simpa using hp)
        by_cases hq : qSit (tC h b) one = false
        · rw [if_pos hq]; rfl
        · have hq1 : 0 ≤ one ∧ one < ld h b 4 := qSit_iff.mp (by simpa using hq)
          exact absurd ⟨⟨by omega, k3⟩, hp1, hq1⟩ hn
    · rw [if_neg k3]; rfl
end LO
