/-! layer 2: what is put into a book -/
theorem rng_up {i k v x : Int} (hk : 0 ≤ k) : rng i (k + 1) (if i = k then v else x) = if i = k then v else rng i k x := by
  unfold rng
  by_cases q : i = k
  · rw [if_pos q, if_pos q, if_pos (by omega)]
  · rw [if_neg q, if_neg q]
    by_cases z : 0 ≤ i ∧ i < k
    · rw [if_pos z, if_pos (by omega)]
    · rw [if_neg z, if_neg (by omega)]
def BkF (b : Int) (h h' : Hp) : Prop := WF h' ∧ h'.2 = h.2 ∧ ∀ a j : Int, ¬ (b ≤ a ∧ a < b + 30) → ld h' a j = ld h a j
def BkL (b : Int) (h h' : Hp) : Prop := ∀ off : Int, 18 ≤ off → off < 30 → ∀ j, ld h' (b + off) j = ld h (b + off) j
theorem BkF_rf {b : Int} {h : Hp} (w : WF h) : BkF b h h := ⟨w, rfl, fun _ _ _ => rfl⟩
theorem BkF_tr {b : Int} {h h1 h2 : Hp} (f : BkF b h h1) (g : BkF b h1 h2) : BkF b h h2 := ⟨g.1, g.2.1.trans f.2.1, fun a j e => (g.2.2 a j e).trans (f.2.2 a j e)⟩
theorem BkF_st {b : Int} {h h1 : Hp} (f : BkF b h h1) {a j v : Int} (ha : b ≤ a ∧ a < b + 30) (hn : npt a j) : BkF b h (st h1 a j v) := ⟨wf_st f.1 hn, f.2.1, fun x y e => (ld_st_ne (Or.inl (fun z : x = a => e (by omega)))).trans (f.2.2 x y e)⟩
theorem bjn {b : Int} (hb : b ∈ BKL) {j : Int} (hj : j ∈ [(0 : Int), 4, 8, 11, 15, 17]) : npt b j := npt_J (List.all_eq_true.mp (List.all_eq_true.mp bf_nJ b hb) j hj)
theorem ld_up (h : Hp) (a k v j : Int) : ld (st h a k v) a j = if j = k then v else ld h a j := by
  rw [ld_st]
  by_cases q : j = k
  · rw [if_pos ⟨rfl, q⟩, if_pos q]
  · rw [if_neg (fun z => q z.2), if_neg q]
section BM
variable {h : Hp} {b : Int}

def tFea (T : Wd) (u v x : Int) : Wd := fun f i => if f = 0 then T 0 0 + 1 else if f = 4 ∧ i = T 0 0 then u else if f = 5 ∧ i = T 0 0 then v else if f = 6 ∧ i = T 0 0 then x else T f i
theorem tC_tFea (w : WF h) (hb : b ∈ BKL) (hk : 0 ≤ ld h b 0) (u v x : Int) : tC (st (st (st (st h (b + 1) (ld h b 0) u) (b + 2) (ld h b 0) v) (b + 3) (ld h b 0) x) b 0 ((ld h b 0) + 1)) b = tFea (tC h b) u v x := by
  generalize hh : st (st (st (st h (b + 1) (ld h b 0) u) (b + 2) (ld h b 0) v) (b + 3) (ld h b 0) x) b 0 ((ld h b 0) + 1) = h1
  generalize hkk : ld h b 0 = k at *
  have o : ∀ off : Int, 1 ≤ off → off ≠ 1 → off ≠ 2 → off ≠ 3 → ∀ j, ld h1 (b + off) j = ld h (b + off) j := fun off q0 q1 q2 q3 j => by rw [← hh, ld_st_ne (Or.inl (by omega)), ld_st_ne (Or.inl (by omega)), ld_st_ne (Or.inl (by omega)), ld_st_ne (Or.inl (by omega))]
  have ob : ∀ j : Int, j ≠ 0 → ld h1 b j = ld h b j := fun j q => by rw [← hh, ld_st_ne (Or.inr q), ld_st_ne (Or.inl (by omega)), ld_st_ne (Or.inl (by omega)), ld_st_ne (Or.inl (by omega))]
  have oc : ld h1 b 0 = k + 1 := by rw [← hh, ld_st_eq]
  have oa1 : ∀ j, ld h1 (b + 1) j = if j = k then u else ld h (b + 1) j := fun j => by rw [← hh, ld_st_ne (Or.inl (by omega)), ld_st_ne (Or.inl (by omega)), ld_st_ne (Or.inl (by omega)), ld_up]
  have oa2 : ∀ j, ld h1 (b + 2) j = if j = k then v else ld h (b + 2) j := fun j => by rw [← hh, ld_st_ne (Or.inl (by omega)), ld_st_ne (Or.inl (by omega)), ld_up, ld_st_ne (Or.inl (by omega))]
  have oa3 : ∀ j, ld h1 (b + 3) j = if j = k then x else ld h (b + 3) j := fun j => by rw [← hh, ld_st_ne (Or.inl (by omega)), ld_up, ld_st_ne (Or.inl (by omega)), ld_st_ne (Or.inl (by omega))]
  have kr : ∀ i j, krow h1 b i j = krow h b i j := fun i j => by unfold krow; rw [o 13 (by decide) (by decide) (by decide) (by decide), o 14 (by decide) (by decide) (by decide) (by decide), o 15 (by decide) (by decide) (by decide) (by decide)]
  funext f i
  unfold tFea
  rw [show tC h b 0 0 = k from hkk]
  by_cases g0 : f = 0
  · subst g0; rw [if_pos rfl]; exact oc
  rw [if_neg g0]
  by_cases g4 : f = 4
  · subst g4
    show rng i (ld h1 b 0) (ld h1 (b + 1) i) = _
    rw [oc, oa1, rng_up hk]
    by_cases q : i = k
    · rw [if_pos q, if_pos ⟨rfl, q⟩]
    · rw [if_neg q, if_neg (fun z => q z.2), if_neg (fun z => by cases z.1), if_neg (fun z => by cases z.1)]; show _ = rng i (ld h b 0) _; rw [hkk]
  rw [if_neg (fun z => g4 z.1)]
  by_cases g5 : f = 5
  · subst g5
    show rng i (ld h1 b 0) (ld h1 (b + 2) i) = _
    rw [oc, oa2, rng_up hk]
    by_cases q : i = k
    · rw [if_pos q, if_pos ⟨rfl, q⟩]
    · rw [if_neg q, if_neg (fun z => q z.2), if_neg (fun z => by cases z.1)]; show _ = rng i (ld h b 0) _; rw [hkk]
  rw [if_neg (fun z => g5 z.1)]
  by_cases g6 : f = 6
  · subst g6
    show rng i (ld h1 b 0) (ld h1 (b + 3) i) = _
    rw [oc, oa3, rng_up hk]
    by_cases q : i = k
    · rw [if_pos q, if_pos ⟨rfl, q⟩]
    · rw [if_neg q, if_neg (fun z => q z.2)]; show _ = rng i (ld h b 0) _; rw [hkk]
  rw [if_neg (fun z => g6 z.1)]
  unfold tC
  split <;> first | rfl | exact absurd rfl g0 | exact absurd rfl g4 | exact absurd rfl g5 | exact absurd rfl g6 | (simp only [o 4 (by decide) (by decide) (by decide) (by decide), o 5 (by decide) (by decide) (by decide) (by decide), o 6 (by decide) (by decide) (by decide) (by decide), o 7 (by decide) (by decide) (by decide) (by decide), o 8 (by decide) (by decide) (by decide) (by decide), o 9 (by decide) (by decide) (by decide) (by decide), o 10 (by decide) (by decide) (by decide) (by decide), o 11 (by decide) (by decide) (by decide) (by decide), o 13 (by decide) (by decide) (by decide) (by decide), o 14 (by decide) (by decide) (by decide) (by decide), o 15 (by decide) (by decide) (by decide) (by decide), o 16 (by decide) (by decide) (by decide) (by decide), o 18 (by decide) (by decide) (by decide) (by decide), o 19 (by decide) (by decide) (by decide) (by decide), o 20 (by decide) (by decide) (by decide) (by decide), o 22 (by decide) (by decide) (by decide) (by decide), o 23 (by decide) (by decide) (by decide) (by decide), o 24 (by decide) (by decide) (by decide) (by decide), o 26 (by decide) (by decide) (by decide) (by decide), o 27 (by decide) (by decide) (by decide) (by decide), o 28 (by decide) (by decide) (by decide) (by decide), ob 4 (by decide), ob 11 (by decide), ob 15 (by decide), kr]; done)
theorem kq_73 (w : WF h) (hb : b ∈ BKL) (hk : 0 ≤ ld h b 0 ∧ ld h b 0 < 5) (u v x : Int) (d : Nat) : ∃ h', C d 73 [(2, b), (0, u), (0, v), (0, x)] h = some ((9, 0), h') ∧ BkF b h h' ∧ tC h' b = tFea (tC h b) u v x ∧ ld h' b 8 = ld h b 8 ∧ ld h' b 17 = ld h b 17 ∧ BkL b h h' := by
  have e := tC_tFea w hb hk.1 u v x
  have f0 := BkF_rf (b := b) w
  have f1 := BkF_st f0 (a := b + 1) (j := (ld h b 0)) (v := u) (by omega) (nfam_at bf_nA hb (by decide) _)
  have r1 : ld (st h (b + 1) (ld h b 0) u) b 0 = (ld h b 0) := (ld_st_ne (Or.inl (by omega))).trans rfl
  have f2 := BkF_st f1 (a := b + 2) (j := (ld h b 0)) (v := v) (by omega) (nfam_at bf_nA hb (by decide) _)
  have r2 : ld (st (st h (b + 1) (ld h b 0) u) (b + 2) (ld h b 0) v) b 0 = (ld h b 0) := (ld_st_ne (Or.inl (by omega))).trans r1
  have f3 := BkF_st f2 (a := b + 3) (j := (ld h b 0)) (v := x) (by omega) (nfam_at bf_nA hb (by decide) _)
  have r3 : ld (st (st (st h (b + 1) (ld h b 0) u) (b + 2) (ld h b 0) v) (b + 3) (ld h b 0) x) b 0 = (ld h b 0) := (ld_st_ne (Or.inl (by omega))).trans r2
  have fl := BkF_st f3 (a := b) (j := 0) (v := (ld h b 0) + 1) (by omega) (bjn hb (by decide))
  refine ⟨_, ?_, fl, e, ?_, ?_, fun off o1 o2 j => ?_⟩
  · rw [ce_73, e73_0, if_pos (bfF0 w hb), if_pos hk.2, if_pos (bfF0 w hb), if_pos (bfF0 w hb), bfP1 w hb, if_pos (bfW1 w hb), bfL1 w hb, if_pos hk, e73_18, if_pos (bfF0 f1.1 hb), if_pos (bfF0 f1.1 hb), bfP2 f1.1 hb, if_pos (bfW2 f1.1 hb), bfL2 f1.1 hb, r1, if_pos hk, e73_28, if_pos (bfF0 f2.1 hb), if_pos (bfF0 f2.1 hb), bfP3 f2.1 hb, if_pos (bfW3 f2.1 hb), bfL3 f2.1 hb, r2, if_pos hk, e73_38, if_pos (bfF0 f3.1 hb), if_pos (bfW0 f3.1 hb), r3, wk hk.1 hk.2 (by decide), e73_48]
  · rw [ld_st_ne (Or.inr (by decide)), ld_st_ne (Or.inl (by omega)), ld_st_ne (Or.inl (by omega)), ld_st_ne (Or.inl (by omega))]
  · rw [ld_st_ne (Or.inr (by decide)), ld_st_ne (Or.inl (by omega)), ld_st_ne (Or.inl (by omega)), ld_st_ne (Or.inl (by omega))]
  · rw [ld_st_ne (Or.inl (by omega)), ld_st_ne (Or.inl (by omega)), ld_st_ne (Or.inl (by omega)), ld_st_ne (Or.inl (by omega))]
def tSit (T : Wd) (u v x : Int) : Wd := fun f i => if f = 1 then T 1 0 + 1 else if f = 7 ∧ i = T 1 0 then u else if f = 8 ∧ i = T 1 0 then v else if f = 9 ∧ i = T 1 0 then x else if f = 10 ∧ i = T 1 0 then (-1) else if f = 11 ∧ i = T 1 0 then (-1) else T f i
theorem tC_tSit (w : WF h) (hb : b ∈ BKL) (hk : 0 ≤ ld h b 4) (u v x : Int) : tC (st (st (st (st (st (st h (b + 4) (ld h b 4) u) (b + 5) (ld h b 4) v) (b + 6) (ld h b 4) x) (b + 7) (ld h b 4) (-1)) (b + 8) (ld h b 4) (-1)) b 4 ((ld h b 4) + 1)) b = tSit (tC h b) u v x := by
  generalize hh : st (st (st (st (st (st h (b + 4) (ld h b 4) u) (b + 5) (ld h b 4) v) (b + 6) (ld h b 4) x) (b + 7) (ld h b 4) (-1)) (b + 8) (ld h b 4) (-1)) b 4 ((ld h b 4) + 1) = h1
  generalize hkk : ld h b 4 = k at *
  have o : ∀ off : Int, 1 ≤ off → off ≠ 4 → off ≠ 5 → off ≠ 6 → off ≠ 7 → off ≠ 8 → ∀ j, ld h1 (b + off) j = ld h (b + off) j := fun off q0 q4 q5 q6 q7 q8 j => by rw [← hh, ld_st_ne (Or.inl (by omega)), ld_st_ne (Or.inl (by omega)), ld_st_ne (Or.inl (by omega)), ld_st_ne (Or.inl (by omega)), ld_st_ne (Or.inl (by omega)), ld_st_ne (Or.inl (by omega))]
  have ob : ∀ j : Int, j ≠ 4 → ld h1 b j = ld h b j := fun j q => by rw [← hh, ld_st_ne (Or.inr q), ld_st_ne (Or.inl (by omega)), ld_st_ne (Or.inl (by omega)), ld_st_ne (Or.inl (by omega)), ld_st_ne (Or.inl (by omega)), ld_st_ne (Or.inl (by omega))]
  have oc : ld h1 b 4 = k + 1 := by rw [← hh, ld_st_eq]
  have oa4 : ∀ j, ld h1 (b + 4) j = if j = k then u else ld h (b + 4) j := fun j => by rw [← hh, ld_st_ne (Or.inl (by omega)), ld_st_ne (Or.inl (by omega)), ld_st_ne (Or.inl (by omega)), ld_st_ne (Or.inl (by omega)), ld_st_ne (Or.inl (by omega)), ld_up]
  have oa5 : ∀ j, ld h1 (b + 5) j = if j = k then v else ld h (b + 5) j := fun j => by rw [← hh, ld_st_ne (Or.inl (by omega)), ld_st_ne (Or.inl (by omega)), ld_st_ne (Or.inl (by omega)), ld_st_ne (Or.inl (by omega)), ld_up, ld_st_ne (Or.inl (by omega))]
  have oa6 : ∀ j, ld h1 (b + 6) j = if j = k then x else ld h (b + 6) j := fun j => by rw [← hh, ld_st_ne (Or.inl (by omega)), ld_st_ne (Or.inl (by omega)), ld_st_ne (Or.inl (by omega)), ld_up, ld_st_ne (Or.inl (by omega)), ld_st_ne (Or.inl (by omega))]
  have oa7 : ∀ j, ld h1 (b + 7) j = if j = k then (-1) else ld h (b + 7) j := fun j => by rw [← hh, ld_st_ne (Or.inl (by omega)), ld_st_ne (Or.inl (by omega)), ld_up, ld_st_ne (Or.inl (by omega)), ld_st_ne (Or.inl (by omega)), ld_st_ne (Or.inl (by omega))]
  have oa8 : ∀ j, ld h1 (b + 8) j = if j = k then (-1) else ld h (b + 8) j := fun j => by rw [← hh, ld_st_ne (Or.inl (by omega)), ld_up, ld_st_ne (Or.inl (by omega)), ld_st_ne (Or.inl (by omega)), ld_st_ne (Or.inl (by omega)), ld_st_ne (Or.inl (by omega))]
  have kr : ∀ i j, krow h1 b i j = krow h b i j := fun i j => by unfold krow; rw [o 13 (by decide) (by decide) (by decide) (by decide) (by decide) (by decide), o 14 (by decide) (by decide) (by decide) (by decide) (by decide) (by decide), o 15 (by decide) (by decide) (by decide) (by decide) (by decide) (by decide)]
  funext f i
  unfold tSit
  rw [show tC h b 1 0 = k from hkk]
  by_cases g1 : f = 1
  · subst g1; rw [if_pos rfl]; exact oc
  rw [if_neg g1]
  by_cases g7 : f = 7
  · subst g7
    show rng i (ld h1 b 4) (ld h1 (b + 4) i) = _
    rw [oc, oa4, rng_up hk]
    by_cases q : i = k
    · rw [if_pos q, if_pos ⟨rfl, q⟩]
    · rw [if_neg q, if_neg (fun z => q z.2), if_neg (fun z => by cases z.1), if_neg (fun z => by cases z.1), if_neg (fun z => by cases z.1), if_neg (fun z => by cases z.1)]; show _ = rng i (ld h b 4) _; rw [hkk]
  rw [if_neg (fun z => g7 z.1)]
  by_cases g8 : f = 8
  · subst g8
    show rng i (ld h1 b 4) (ld h1 (b + 5) i) = _
    rw [oc, oa5, rng_up hk]
    by_cases q : i = k
    · rw [if_pos q, if_pos ⟨rfl, q⟩]
    · rw [if_neg q, if_neg (fun z => q z.2), if_neg (fun z => by cases z.1), if_neg (fun z => by cases z.1), if_neg (fun z => by cases z.1)]; show _ = rng i (ld h b 4) _; rw [hkk]
  rw [if_neg (fun z => g8 z.1)]
  by_cases g9 : f = 9
  · subst g9
    show rng i (ld h1 b 4) (ld h1 (b + 6) i) = _
    rw [oc, oa6, rng_up hk]
    by_cases q : i = k
    · rw [if_pos q, if_pos ⟨rfl, q⟩]
    · rw [if_neg q, if_neg (fun z => q z.2), if_neg (fun z => by cases z.1), if_neg (fun z => by cases z.1)]; show _ = rng i (ld h b 4) _; rw [hkk]
  rw [if_neg (fun z => g9 z.1)]
  by_cases g10 : f = 10
  · subst g10
    show rng i (ld h1 b 4) (ld h1 (b + 7) i) = _
    rw [oc, oa7, rng_up hk]
    by_cases q : i = k
    · rw [if_pos q, if_pos ⟨rfl, q⟩]
    · rw [if_neg q, if_neg (fun z => q z.2), if_neg (fun z => by cases z.1)]; show _ = rng i (ld h b 4) _; rw [hkk]
  rw [if_neg (fun z => g10 z.1)]
  by_cases g11 : f = 11
  · subst g11
    show rng i (ld h1 b 4) (ld h1 (b + 8) i) = _
    rw [oc, oa8, rng_up hk]
    by_cases q : i = k
    · rw [if_pos q, if_pos ⟨rfl, q⟩]
    · rw [if_neg q, if_neg (fun z => q z.2)]; show _ = rng i (ld h b 4) _; rw [hkk]
  rw [if_neg (fun z => g11 z.1)]
  unfold tC
  split <;> first | rfl | exact absurd rfl g1 | exact absurd rfl g7 | exact absurd rfl g8 | exact absurd rfl g9 | exact absurd rfl g10 | exact absurd rfl g11 | (simp only [o 1 (by decide) (by decide) (by decide) (by decide) (by decide) (by decide), o 2 (by decide) (by decide) (by decide) (by decide) (by decide) (by decide), o 3 (by decide) (by decide) (by decide) (by decide) (by decide) (by decide), o 9 (by decide) (by decide) (by decide) (by decide) (by decide) (by decide), o 10 (by decide) (by decide) (by decide) (by decide) (by decide) (by decide), o 11 (by decide) (by decide) (by decide) (by decide) (by decide) (by decide), o 13 (by decide) (by decide) (by decide) (by decide) (by decide) (by decide), o 14 (by decide) (by decide) (by decide) (by decide) (by decide) (by decide), o 15 (by decide) (by decide) (by decide) (by decide) (by decide) (by decide), o 16 (by decide) (by decide) (by decide) (by decide) (by decide) (by decide), o 18 (by decide) (by decide) (by decide) (by decide) (by decide) (by decide), o 19 (by decide) (by decide) (by decide) (by decide) (by decide) (by decide), o 20 (by decide) (by decide) (by decide) (by decide) (by decide) (by decide), o 22 (by decide) (by decide) (by decide) (by decide) (by decide) (by decide), o 23 (by decide) (by decide) (by decide) (by decide) (by decide) (by decide), o 24 (by decide) (by decide) (by decide) (by decide) (by decide) (by decide), o 26 (by decide) (by decide) (by decide) (by decide) (by decide) (by decide), o 27 (by decide) (by decide) (by decide) (by decide) (by decide) (by decide), o 28 (by decide) (by decide) (by decide) (by decide) (by decide) (by decide), ob 0 (by decide), ob 11 (by decide), ob 15 (by decide), kr]; done)
theorem kq_74 (w : WF h) (hb : b ∈ BKL) (hk : 0 ≤ ld h b 4 ∧ ld h b 4 < 5) (u v x : Int) (d : Nat) : ∃ h', C d 74 [(2, b), (0, u), (0, v), (0, x)] h = some ((9, 0), h') ∧ BkF b h h' ∧ tC h' b = tSit (tC h b) u v x ∧ ld h' b 8 = ld h b 8 ∧ ld h' b 17 = ld h b 17 ∧ BkL b h h' := by
  have e := tC_tSit w hb hk.1 u v x
  have f0 := BkF_rf (b := b) w
  have f1 := BkF_st f0 (a := b + 4) (j := (ld h b 4)) (v := u) (by omega) (nfam_at bf_nA hb (by decide) _)
  have r1 : ld (st h (b + 4) (ld h b 4) u) b 4 = (ld h b 4) := (ld_st_ne (Or.inl (by omega))).trans rfl
  have f2 := BkF_st f1 (a := b + 5) (j := (ld h b 4)) (v := v) (by omega) (nfam_at bf_nA hb (by decide) _)
  have r2 : ld (st (st h (b + 4) (ld h b 4) u) (b + 5) (ld h b 4) v) b 4 = (ld h b 4) := (ld_st_ne (Or.inl (by omega))).trans r1
  have f3 := BkF_st f2 (a := b + 6) (j := (ld h b 4)) (v := x) (by omega) (nfam_at bf_nA hb (by decide) _)
  have r3 : ld (st (st (st h (b + 4) (ld h b 4) u) (b + 5) (ld h b 4) v) (b + 6) (ld h b 4) x) b 4 = (ld h b 4) := (ld_st_ne (Or.inl (by omega))).trans r2
  have f4 := BkF_st f3 (a := b + 7) (j := (ld h b 4)) (v := (-1)) (by omega) (nfam_at bf_nA hb (by decide) _)
  have r4 : ld (st (st (st (st h (b + 4) (ld h b 4) u) (b + 5) (ld h b 4) v) (b + 6) (ld h b 4) x) (b + 7) (ld h b 4) (-1)) b 4 = (ld h b 4) := (ld_st_ne (Or.inl (by omega))).trans r3
  have f5 := BkF_st f4 (a := b + 8) (j := (ld h b 4)) (v := (-1)) (by omega) (nfam_at bf_nA hb (by decide) _)
  have r5 : ld (st (st (st (st (st h (b + 4) (ld h b 4) u) (b + 5) (ld h b 4) v) (b + 6) (ld h b 4) x) (b + 7) (ld h b 4) (-1)) (b + 8) (ld h b 4) (-1)) b 4 = (ld h b 4) := (ld_st_ne (Or.inl (by omega))).trans r4
  have fl := BkF_st f5 (a := b) (j := 4) (v := (ld h b 4) + 1) (by omega) (bjn hb (by decide))
  refine ⟨_, ?_, fl, e, ?_, ?_, fun off o1 o2 j => ?_⟩
  · rw [ce_74, e74_0, if_pos (bfF0 w hb), if_pos hk.2, if_pos (bfF0 w hb), if_pos (bfF0 w hb), bfP5 w hb, if_pos (bfW4 w hb), bfL4 w hb, if_pos hk, e74_18, if_pos (bfF0 f1.1 hb), if_pos (bfF0 f1.1 hb), bfP6 f1.1 hb, if_pos (bfW5 f1.1 hb), bfL5 f1.1 hb, r1, if_pos hk, e74_28, if_pos (bfF0 f2.1 hb), if_pos (bfF0 f2.1 hb), bfP7 f2.1 hb, if_pos (bfW6 f2.1 hb), bfL6 f2.1 hb, r2, if_pos hk, e74_38, if_pos (bfF0 f3.1 hb), if_pos (bfF0 f3.1 hb), bfP9 f3.1 hb, if_pos (bfW7 f3.1 hb), bfL7 f3.1 hb, r3, if_pos hk, e74_48, if_pos (bfF0 f4.1 hb), if_pos (bfF0 f4.1 hb), bfP10 f4.1 hb, if_pos (bfW8 f4.1 hb), bfL8 f4.1 hb, r4, if_pos hk, e74_58, if_pos (bfF0 f5.1 hb), if_pos (bfW0 f5.1 hb), r5, wk hk.1 hk.2 (by decide), e74_68]
  · rw [ld_st_ne (Or.inr (by decide)), ld_st_ne (Or.inl (by omega)), ld_st_ne (Or.inl (by omega)), ld_st_ne (Or.inl (by omega)), ld_st_ne (Or.inl (by omega)), ld_st_ne (Or.inl (by omega))]
  · rw [ld_st_ne (Or.inr (by decide)), ld_st_ne (Or.inl (by omega)), ld_st_ne (Or.inl (by omega)), ld_st_ne (Or.inl (by omega)), ld_st_ne (Or.inl (by omega)), ld_st_ne (Or.inl (by omega))]
  · rw [ld_st_ne (Or.inl (by omega)), ld_st_ne (Or.inl (by omega)), ld_st_ne (Or.inl (by omega)), ld_st_ne (Or.inl (by omega)), ld_st_ne (Or.inl (by omega)), ld_st_ne (Or.inl (by omega))]
def tPie (T : Wd) (u v x : Int) : Wd := fun f i => if f = 2 then T 2 0 + 1 else if f = 12 ∧ i = T 2 0 then u else if f = 13 ∧ i = T 2 0 then v else if f = 14 ∧ i = T 2 0 then x else T f i
theorem tC_tPie (w : WF h) (hb : b ∈ BKL) (hk : 0 ≤ ld h b 11) (u v x : Int) : tC (st (st (st (st h (b + 9) (ld h b 11) u) (b + 10) (ld h b 11) v) (b + 11) (ld h b 11) x) b 11 ((ld h b 11) + 1)) b = tPie (tC h b) u v x := by
  generalize hh : st (st (st (st h (b + 9) (ld h b 11) u) (b + 10) (ld h b 11) v) (b + 11) (ld h b 11) x) b 11 ((ld h b 11) + 1) = h1
  generalize hkk : ld h b 11 = k at *
  have o : ∀ off : Int, 1 ≤ off → off ≠ 9 → off ≠ 10 → off ≠ 11 → ∀ j, ld h1 (b + off) j = ld h (b + off) j := fun off q0 q9 q10 q11 j => by rw [← hh, ld_st_ne (Or.inl (by omega)), ld_st_ne (Or.inl (by omega)), ld_st_ne (Or.inl (by omega)), ld_st_ne (Or.inl (by omega))]
  have ob : ∀ j : Int, j ≠ 11 → ld h1 b j = ld h b j := fun j q => by rw [← hh, ld_st_ne (Or.inr q), ld_st_ne (Or.inl (by omega)), ld_st_ne (Or.inl (by omega)), ld_st_ne (Or.inl (by omega))]
  have oc : ld h1 b 11 = k + 1 := by rw [← hh, ld_st_eq]
  have oa9 : ∀ j, ld h1 (b + 9) j = if j = k then u else ld h (b + 9) j := fun j => by rw [← hh, ld_st_ne (Or.inl (by omega)), ld_st_ne (Or.inl (by omega)), ld_st_ne (Or.inl (by omega)), ld_up]
  have oa10 : ∀ j, ld h1 (b + 10) j = if j = k then v else ld h (b + 10) j := fun j => by rw [← hh, ld_st_ne (Or.inl (by omega)), ld_st_ne (Or.inl (by omega)), ld_up, ld_st_ne (Or.inl (by omega))]
  have oa11 : ∀ j, ld h1 (b + 11) j = if j = k then x else ld h (b + 11) j := fun j => by rw [← hh, ld_st_ne (Or.inl (by omega)), ld_up, ld_st_ne (Or.inl (by omega)), ld_st_ne (Or.inl (by omega))]
  have kr : ∀ i j, krow h1 b i j = krow h b i j := fun i j => by unfold krow; rw [o 13 (by decide) (by decide) (by decide) (by decide), o 14 (by decide) (by decide) (by decide) (by decide), o 15 (by decide) (by decide) (by decide) (by decide)]
  funext f i
  unfold tPie
  rw [show tC h b 2 0 = k from hkk]
  by_cases g2 : f = 2
  · subst g2; rw [if_pos rfl]; exact oc
  rw [if_neg g2]
  by_cases g12 : f = 12
  · subst g12
    show rng i (ld h1 b 11) (ld h1 (b + 9) i) = _
    rw [oc, oa9, rng_up hk]
    by_cases q : i = k
    · rw [if_pos q, if_pos ⟨rfl, q⟩]
    · rw [if_neg q, if_neg (fun z => q z.2), if_neg (fun z => by cases z.1), if_neg (fun z => by cases z.1)]; show _ = rng i (ld h b 11) _; rw [hkk]
  rw [if_neg (fun z => g12 z.1)]
  by_cases g13 : f = 13
  · subst g13
    show rng i (ld h1 b 11) (ld h1 (b + 10) i) = _
    rw [oc, oa10, rng_up hk]
    by_cases q : i = k
    · rw [if_pos q, if_pos ⟨rfl, q⟩]
    · rw [if_neg q, if_neg (fun z => q z.2), if_neg (fun z => by cases z.1)]; show _ = rng i (ld h b 11) _; rw [hkk]
  rw [if_neg (fun z => g13 z.1)]
  by_cases g14 : f = 14
  · subst g14
    show rng i (ld h1 b 11) (ld h1 (b + 11) i) = _
    rw [oc, oa11, rng_up hk]
    by_cases q : i = k
    · rw [if_pos q, if_pos ⟨rfl, q⟩]
    · rw [if_neg q, if_neg (fun z => q z.2)]; show _ = rng i (ld h b 11) _; rw [hkk]
  rw [if_neg (fun z => g14 z.1)]
  unfold tC
  split <;> first | rfl | exact absurd rfl g2 | exact absurd rfl g12 | exact absurd rfl g13 | exact absurd rfl g14 | (simp only [o 1 (by decide) (by decide) (by decide) (by decide), o 2 (by decide) (by decide) (by decide) (by decide), o 3 (by decide) (by decide) (by decide) (by decide), o 4 (by decide) (by decide) (by decide) (by decide), o 5 (by decide) (by decide) (by decide) (by decide), o 6 (by decide) (by decide) (by decide) (by decide), o 7 (by decide) (by decide) (by decide) (by decide), o 8 (by decide) (by decide) (by decide) (by decide), o 13 (by decide) (by decide) (by decide) (by decide), o 14 (by decide) (by decide) (by decide) (by decide), o 15 (by decide) (by decide) (by decide) (by decide), o 16 (by decide) (by decide) (by decide) (by decide), o 18 (by decide) (by decide) (by decide) (by decide), o 19 (by decide) (by decide) (by decide) (by decide), o 20 (by decide) (by decide) (by decide) (by decide), o 22 (by decide) (by decide) (by decide) (by decide), o 23 (by decide) (by decide) (by decide) (by decide), o 24 (by decide) (by decide) (by decide) (by decide), o 26 (by decide) (by decide) (by decide) (by decide), o 27 (by decide) (by decide) (by decide) (by decide), o 28 (by decide) (by decide) (by decide) (by decide), ob 0 (by decide), ob 4 (by decide), ob 15 (by decide), kr]; done)
theorem kq_75 (w : WF h) (hb : b ∈ BKL) (hk : 0 ≤ ld h b 11 ∧ ld h b 11 < 10) (u v x : Int) (d : Nat) : ∃ h', C d 75 [(2, b), (0, u), (0, v), (0, x)] h = some ((9, 0), h') ∧ BkF b h h' ∧ tC h' b = tPie (tC h b) u v x ∧ ld h' b 8 = ld h b 8 ∧ ld h' b 17 = ld h b 17 ∧ BkL b h h' := by
  have e := tC_tPie w hb hk.1 u v x
  have f0 := BkF_rf (b := b) w
  have f1 := BkF_st f0 (a := b + 9) (j := (ld h b 11)) (v := u) (by omega) (nfam_at bf_nA hb (by decide) _)
  have r1 : ld (st h (b + 9) (ld h b 11) u) b 11 = (ld h b 11) := (ld_st_ne (Or.inl (by omega))).trans rfl
  have f2 := BkF_st f1 (a := b + 10) (j := (ld h b 11)) (v := v) (by omega) (nfam_at bf_nA hb (by decide) _)
  have r2 : ld (st (st h (b + 9) (ld h b 11) u) (b + 10) (ld h b 11) v) b 11 = (ld h b 11) := (ld_st_ne (Or.inl (by omega))).trans r1
  have f3 := BkF_st f2 (a := b + 11) (j := (ld h b 11)) (v := x) (by omega) (nfam_at bf_nA hb (by decide) _)
  have r3 : ld (st (st (st h (b + 9) (ld h b 11) u) (b + 10) (ld h b 11) v) (b + 11) (ld h b 11) x) b 11 = (ld h b 11) := (ld_st_ne (Or.inl (by omega))).trans r2
  have fl := BkF_st f3 (a := b) (j := 11) (v := (ld h b 11) + 1) (by omega) (bjn hb (by decide))
  refine ⟨_, ?_, fl, e, ?_, ?_, fun off o1 o2 j => ?_⟩
  · rw [ce_75, e75_0, if_pos (bfF0 w hb), if_pos hk.2, if_pos (bfF0 w hb), if_pos (bfF0 w hb), bfP12 w hb, if_pos (bfW9 w hb), bfL9 w hb, if_pos hk, e75_19, if_pos (bfF0 f1.1 hb), if_pos (bfF0 f1.1 hb), bfP13 f1.1 hb, if_pos (bfW10 f1.1 hb), bfL10 f1.1 hb, r1, if_pos hk, e75_29, if_pos (bfF0 f2.1 hb), if_pos (bfF0 f2.1 hb), bfP14 f2.1 hb, if_pos (bfW11 f2.1 hb), bfL11 f2.1 hb, r2, if_pos hk, e75_39, if_pos (bfF0 f3.1 hb), if_pos (bfW0 f3.1 hb), r3, wk hk.1 hk.2 (by decide), e75_49]
  · rw [ld_st_ne (Or.inr (by decide)), ld_st_ne (Or.inl (by omega)), ld_st_ne (Or.inl (by omega)), ld_st_ne (Or.inl (by omega))]
  · rw [ld_st_ne (Or.inr (by decide)), ld_st_ne (Or.inl (by omega)), ld_st_ne (Or.inl (by omega)), ld_st_ne (Or.inl (by omega))]
  · rw [ld_st_ne (Or.inl (by omega)), ld_st_ne (Or.inl (by omega)), ld_st_ne (Or.inl (by omega)), ld_st_ne (Or.inl (by omega))]
end BM
