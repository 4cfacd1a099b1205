/-! layer 2: the matching -/
def sTkr (T S : Wd) (p : Int) : Int := if S 9 p = -2 then fld (fun i a => if qLiv S i && !sHas T S i (T 13 p) then or32 a (shl32 1 i) else a) (T 1 0).toNat 0 0 else 0
def mbit (T S : Wd) (p set i : Int) : Bool := !decide (and32 (and32 (sTkr T S p) (xor32 set (-1))) (shl32 1 i) = 0)
def mst (T S : Wd) : Nat → Int → Int → Int
  | 0, _, _ => 0
  | m + 1, p, set => fld (fun i v => if mbit T S p set i then imax v (w32 (1 + mst T S m (p + 1) (or32 set (shl32 1 i)))) else v) 5 0 (mst T S m (p + 1) set)
def sLst (T S : Wd) (m : Nat) (p set : Int) : Int :=
  let r := fnd (fun i => mbit T S p set i && decide (w32 (1 + mst T S m (p + 1) (or32 set (shl32 1 i))) = mst T S (m + 1) p set)) 5 0
  if r = -1 then -2 else r
def mtk (T S : Wd) : Nat → Int → Int → Int → Int
  | 0, _, _, _ => -2
  | m + 1, p, set, q => if q = p then sLst T S m p set else mtk T S m (p + 1) (if sLst T S m p set = -2 then set else or32 set (shl32 1 (sLst T S m p set))) q
theorem or_tb : (List.range 32).all (fun s => (List.range 5).all (fun i => decide (0 ≤ or32 (s : Int) (shl32 1 (i : Int)) ∧ or32 (s : Int) (shl32 1 (i : Int)) < 32)) && decide (or32 (s : Int) 0 = (s : Int))) = true := by decide +kernel
theorem or_b {set i : Int} (h0 : 0 ≤ set ∧ set < 32) (hi : 0 ≤ i ∧ i < 5) : 0 ≤ or32 set (shl32 1 i) ∧ or32 set (shl32 1 i) < 32 := by
  have := List.all_eq_true.mp or_tb set.toNat (List.mem_range.mpr (by omega))
  rw [Bool.and_eq_true] at this
  have := of_decide_eq_true (List.all_eq_true.mp this.1 i.toNat (List.mem_range.mpr (by omega)))
  rw [show ((set.toNat : Nat) : Int) = set by omega, show ((i.toNat : Nat) : Int) = i by omega] at this
  exact this
theorem or_0 {set : Int} (h0 : 0 ≤ set ∧ set < 32) : or32 set 0 = set := by
  have := List.all_eq_true.mp or_tb set.toNat (List.mem_range.mpr (by omega))
  rw [Bool.and_eq_true] at this
  have := of_decide_eq_true this.2
  rw [show ((set.toNat : Nat) : Int) = set by omega] at this
  exact this
theorem P293_0 {h : Hp} (w : WF h) : ld h 293 0 = 294 := wf_pt w (pt_in (by decide +kernel))
theorem P293_1 {h : Hp} (w : WF h) : ld h 293 1 = 295 := wf_pt w (pt_in (by decide +kernel))
theorem P293_2 {h : Hp} (w : WF h) : ld h 293 2 = 307 := wf_pt w (pt_in (by decide +kernel))
theorem row_tb : (List.range 11).all (fun k => PTL.contains (295, (k : Int), 296 + (k : Int)) && shQ (296 + (k : Int)) 0 32 && nptA (296 + (k : Int)) && !scr (296 + (k : Int))) = true := by decide +kernel
theorem row_f {h : Hp} (w : WF h) {k : Int} (hk : 0 ≤ k ∧ k < 11) : ld h 295 k = 296 + k ∧ okF h (296 + k) 0 = true ∧ okW h (296 + k) 0 = true ∧ len h (296 + k) = 32 ∧ (∀ j, npt (296 + k) j) ∧ scr (296 + k) = false := by
  have := List.all_eq_true.mp row_tb k.toNat (List.mem_range.mpr (by omega))
  rw [show ((k.toNat : Nat) : Int) = k by omega, Bool.and_eq_true, Bool.and_eq_true, Bool.and_eq_true] at this
  obtain ⟨⟨⟨a, b⟩, c⟩, d⟩ := this
  exact ⟨wf_pt w (pt_in a), (wf_sh w b).1, (wf_sh w b).2.1, (wf_sh w b).2.2, npt_A c, by simpa using d⟩
section MA
variable {h : Hp} {s b : Int}
theorem lpF2 {G : Int → Rt} {f : Int → Bool} {N e0 : Int} (hN : 0 ≤ N) (he : G N = some ((0, e0), h)) (hs : ∀ k, 0 ≤ k → k < N → G k = if f k = true then some ((0, k), h) else G (k + 1)) : G 0 = some ((0, if fnd f N.toNat 0 = -1 then e0 else fnd f N.toNat 0), h) := by
  have key : ∀ (n : Nat) (k : Int), 0 ≤ k → k + n = N → G k = some ((0, if fnd f n k = -1 then e0 else fnd f n k), h) := by
    intro n
    induction n with
    | zero => intro k hk hn; rw [show k = N by omega, he]; rfl
    | succ n ih =>
      intro k hk hn
      rw [hs k hk (by omega)]
      unfold fnd
      split
      · rw [if_neg (by omega)]
      · exact ih (k + 1) (by omega) (by omega)
  exact key N.toNat 0 (by omega) (by omega)
theorem kq_122 (c : CK h s b) {p : Int} (hp : 0 ≤ p ∧ p < ld h b 11) (d : Nat) : C (d + 1) 122 [(2, s), (0, p)] h = some ((0, sTkr (tC h b) (sV h s b) p), h) := by
  obtain ⟨w, hs, hb, e, hT, -⟩ := id c
  have hN : 0 ≤ ld h b 4 ∧ ld h b 4 ≤ 5 := hT.2.1
  obtain ⟨⟨q1, q2⟩, -⟩ := pie_b hT hp
  have sN : ∀ i, sC h s (ld h b 4) (ld h b 11) 9 i = sV h s b 9 i := fun _ => rfl
  rw [ce_122, e122_0]
  unfold sTkr
  by_cases q : sV h s b 9 p = -2
  · rw [if_pos q]
    refine lpD (N := ld h b 4) (G := fun k a => V (d + 1) 122 4 [(2, s), (0, p), (0, a), (0, k)] [] h) hN.1 ?_ ?_ 0
    · intro a
      show V (d + 1) 122 4 _ _ _ = _
      rw [e122_4]; simp only [sfF0 w hs, sfW0 w hs, sfF1 w hs, sfW1 w hs, sfL1 w hs, sfF2 w hs, sfW2 w hs, sfL2 w hs, sfF3 w hs, sfW3 w hs, sfL3 w hs, sfF4 w hs, sfW4 w hs, sfL4 w hs, sfF5 w hs, sfW5 w hs, sfL5 w hs, sfF6 w hs, sfW6 w hs, sfL6 w hs, sfF7 w hs, sfW7 w hs, sfL7 w hs, sfP6 w hs, sfP7 w hs, sfP8 w hs, sfP9 w hs, sfP11 w hs, sfP12 w hs, sfP13 w hs, e, bfF0 w hb, bfW0 w hb, bfF1 w hb, bfW1 w hb, bfL1 w hb, bfF2 w hb, bfW2 w hb, bfL2 w hb, bfF3 w hb, bfW3 w hb, bfL3 w hb, bfF4 w hb, bfW4 w hb, bfL4 w hb, bfF5 w hb, bfW5 w hb, bfL5 w hb, bfF6 w hb, bfW6 w hb, bfL6 w hb, bfF7 w hb, bfW7 w hb, bfL7 w hb, bfF8 w hb, bfW8 w hb, bfL8 w hb, bfF9 w hb, bfW9 w hb, bfL9 w hb, bfF10 w hb, bfW10 w hb, bfL10 w hb, bfF11 w hb, bfW11 w hb, bfL11 w hb, bfF12 w hb, bfW12 w hb, bfL12 w hb, bfF13 w hb, bfW13 w hb, bfL13 w hb, bfF14 w hb, bfW14 w hb, bfL14 w hb, bfF15 w hb, bfW15 w hb, bfL15 w hb, bfF16 w hb, bfW16 w hb, bfL16 w hb, bfF17 w hb, bfW17 w hb, bfL17 w hb, bfP1 w hb, bfP2 w hb, bfP3 w hb, bfP5 w hb, bfP6 w hb, bfP7 w hb, bfP9 w hb, bfP10 w hb, bfP12 w hb, bfP13 w hb, bfP14 w hb, bfP16 w hb, bfP18 w hb, bfP19 w hb, if_true, Int.lt_irrefl, if_false, e122_63]
    · intro k a h0 h1
      show V (d + 1) 122 4 _ _ _ = _
      rw [e122_4]
      simp only [sfF0 w hs, sfW0 w hs, sfF1 w hs, sfW1 w hs, sfL1 w hs, sfF2 w hs, sfW2 w hs, sfL2 w hs, sfF3 w hs, sfW3 w hs, sfL3 w hs, sfF4 w hs, sfW4 w hs, sfL4 w hs, sfF5 w hs, sfW5 w hs, sfL5 w hs, sfF6 w hs, sfW6 w hs, sfL6 w hs, sfF7 w hs, sfW7 w hs, sfL7 w hs, sfP6 w hs, sfP7 w hs, sfP8 w hs, sfP9 w hs, sfP11 w hs, sfP12 w hs, sfP13 w hs, e, bfF0 w hb, bfW0 w hb, bfF1 w hb, bfW1 w hb, bfL1 w hb, bfF2 w hb, bfW2 w hb, bfL2 w hb, bfF3 w hb, bfW3 w hb, bfL3 w hb, bfF4 w hb, bfW4 w hb, bfL4 w hb, bfF5 w hb, bfW5 w hb, bfL5 w hb, bfF6 w hb, bfW6 w hb, bfL6 w hb, bfF7 w hb, bfW7 w hb, bfL7 w hb, bfF8 w hb, bfW8 w hb, bfL8 w hb, bfF9 w hb, bfW9 w hb, bfL9 w hb, bfF10 w hb, bfW10 w hb, bfL10 w hb, bfF11 w hb, bfW11 w hb, bfL11 w hb, bfF12 w hb, bfW12 w hb, bfL12 w hb, bfF13 w hb, bfW13 w hb, bfL13 w hb, bfF14 w hb, bfW14 w hb, bfL14 w hb, bfF15 w hb, bfW15 w hb, bfL15 w hb, bfF16 w hb, bfW16 w hb, bfL16 w hb, bfF17 w hb, bfW17 w hb, bfL17 w hb, bfP1 w hb, bfP2 w hb, bfP3 w hb, bfP5 w hb, bfP6 w hb, bfP7 w hb, bfP9 w hb, bfP10 w hb, bfP12 w hb, bfP13 w hb, bfP14 w hb, bfP16 w hb, bfP18 w hb, bfP19 w hb, if_true, h0, h1, q1, q2, and_self, e122_15, sC_9 (ns := ld h b 4) hp, sN, q, e122_26, Cl_eq _ (kq_87 w hs d (ld h b 4) (ld h b 11) k), Cl_eq _ (kq_98 c d _ _), e122_48, e122_57, wk h0 h1 (by omega), tC_13 hp, bI_e0]
      cases qLiv (sV h s b) k <;> cases sHas (tC h b) (sV h s b) k (tC h b 13 p) <;> simp
  · rw [if_neg q, e122_4]
    simp only [sfF0 w hs, sfW0 w hs, sfF1 w hs, sfW1 w hs, sfL1 w hs, sfF2 w hs, sfW2 w hs, sfL2 w hs, sfF3 w hs, sfW3 w hs, sfL3 w hs, sfF4 w hs, sfW4 w hs, sfL4 w hs, sfF5 w hs, sfW5 w hs, sfL5 w hs, sfF6 w hs, sfW6 w hs, sfL6 w hs, sfF7 w hs, sfW7 w hs, sfL7 w hs, sfP6 w hs, sfP7 w hs, sfP8 w hs, sfP9 w hs, sfP11 w hs, sfP12 w hs, sfP13 w hs, e, bfF0 w hb, bfW0 w hb, bfF1 w hb, bfW1 w hb, bfL1 w hb, bfF2 w hb, bfW2 w hb, bfL2 w hb, bfF3 w hb, bfW3 w hb, bfL3 w hb, bfF4 w hb, bfW4 w hb, bfL4 w hb, bfF5 w hb, bfW5 w hb, bfL5 w hb, bfF6 w hb, bfW6 w hb, bfL6 w hb, bfF7 w hb, bfW7 w hb, bfL7 w hb, bfF8 w hb, bfW8 w hb, bfL8 w hb, bfF9 w hb, bfW9 w hb, bfL9 w hb, bfF10 w hb, bfW10 w hb, bfL10 w hb, bfF11 w hb, bfW11 w hb, bfL11 w hb, bfF12 w hb, bfW12 w hb, bfL12 w hb, bfF13 w hb, bfW13 w hb, bfL13 w hb, bfF14 w hb, bfW14 w hb, bfL14 w hb, bfF15 w hb, bfW15 w hb, bfL15 w hb, bfF16 w hb, bfW16 w hb, bfL16 w hb, bfF17 w hb, bfW17 w hb, bfL17 w hb, bfP1 w hb, bfP2 w hb, bfP3 w hb, bfP5 w hb, bfP6 w hb, bfP7 w hb, bfP9 w hb, bfP10 w hb, bfP12 w hb, bfP13 w hb, bfP14 w hb, bfP16 w hb, bfP18 w hb, bfP19 w hb, if_true, e122_15, q1, q2, and_self, sC_9 (ns := ld h b 4) hp, sN, q, if_false, e122_63]
    split <;> rfl
/-- the rows from p on are right -/
def Rows (h : Hp) (T S : Wd) (np p : Int) : Prop := (∀ q set : Int, p ≤ q → q ≤ np → 0 ≤ set → set < 32 → ld h (296 + q) set = mst T S (np - q).toNat q set) ∧ ∀ q : Int, p ≤ q → q < np → ld h 294 q = sTkr T S q
theorem kq_123 (w : WF h) {T S : Wd} {p : Int} {m : Nat} (hp : 0 ≤ p ∧ p < 10) (hr : ∀ set : Int, 0 ≤ set → set < 32 → ld h (296 + (p + 1)) set = mst T S m (p + 1) set) (ht : ld h 294 p = sTkr T S p) {set : Int} (hset : 0 ≤ set ∧ set < 32) (d : Nat) : C (d + 1) 123 [(2, 293), (0, p), (0, set)] h = some ((0, mst T S (m + 1) p set), h) := by
  have wp : True → w32 (p + 1) = p + 1 := fun _ => wk hp.1 hp.2 (by decide)
  obtain ⟨r1, r2, r3, r4, -⟩ := row_f w (k := p + 1) (by omega)
  rw [ce_123, e123_0, if_pos (F_a293 w), P293_1 w, if_pos (F_a295 w), L_a295 w, wp trivial, if_pos (by omega), r1, if_pos r2, r4, if_pos hset, hr set hset.1 hset.2, e123_11]
  refine lpD (N := 5) (G := fun i v => V (d + 1) 123 14 [(2, 293), (0, p), (0, set), (0, v), (0, i)] [] h) (by decide) ?_ ?_ _
  · intro v
    show V (d + 1) 123 14 _ _ _ = _
    rw [e123_14, if_neg (by decide), e123_66]
  · intro i v h0 h1
    show V (d + 1) 123 14 _ _ _ = _
    have ob := or_b hset (i := i) ⟨h0, h1⟩
    rw [e123_14, if_pos h1, if_pos (F_a293 w), P293_0 w, if_pos (F_a294 w), L_a294 w, if_pos (by omega), ht, e123_60, wk h0 h1 (by decide)]
    unfold mbit
    by_cases q : and32 (and32 (sTkr T S p) (xor32 set (-1))) (shl32 1 i) = 0
    · rw [if_pos q]; simp only [q, decide_true, Bool.not_true, Bool.false_eq_true, if_false]
    · rw [if_neg q]; simp only [q, decide_false, Bool.not_false, if_true]
      rw [e123_38, if_pos (F_a293 w), P293_1 w, if_pos (F_a295 w), L_a295 w, wp trivial, if_pos (by omega), r1, if_pos r2, r4, if_pos ob, hr _ ob.1 ob.2, Cl_eq _ (max243 d _ _), e123_60, wk h0 h1 (by decide)]
theorem kq_124 (w : WF h) {T S : Wd} {p : Int} {m : Nat} (hp : 0 ≤ p ∧ p < 10) (hr : ∀ set : Int, 0 ≤ set → set < 32 → ld h (296 + (p + 1)) set = mst T S m (p + 1) set) (hr0 : ∀ set : Int, 0 ≤ set → set < 32 → ld h (296 + p) set = mst T S (m + 1) p set) (ht : ld h 294 p = sTkr T S p) {set : Int} (hset : 0 ≤ set ∧ set < 32) (d : Nat) : C d 124 [(2, 293), (0, p), (0, set)] h = some ((0, sLst T S m p set), h) := by
  have wp : True → w32 (p + 1) = p + 1 := fun _ => wk hp.1 hp.2 (by decide)
  obtain ⟨r1, r2, r3, r4, -⟩ := row_f w (k := p + 1) (by omega)
  obtain ⟨u1, u2, u3, u4, -⟩ := row_f w (k := p) (by omega)
  rw [ce_124, e124_0]
  refine lpF2 (N := 5) (G := fun i => V d 124 2 [(2, 293), (0, p), (0, set), (0, i)] [] h) (by decide) ?_ ?_
  · show V d 124 2 _ _ _ = _
    rw [e124_2, if_neg (by decide), e124_59]
  · intro i h0 h1
    show V d 124 2 _ _ _ = _
    have ob := or_b hset (i := i) ⟨h0, h1⟩
    rw [e124_2, if_pos h1, if_pos (F_a293 w), P293_0 w, if_pos (F_a294 w), L_a294 w, if_pos (by omega), ht, e124_53, wk h0 h1 (by decide)]
    unfold mbit
    by_cases q : and32 (and32 (sTkr T S p) (xor32 set (-1))) (shl32 1 i) = 0
    · rw [if_pos q]; simp only [q, decide_true, Bool.not_true, Bool.false_and, Bool.false_eq_true, if_false]
    · rw [if_neg q]; simp only [q, decide_false, Bool.not_false, Bool.true_and, decide_eq_true_eq]
      rw [e124_24, if_pos (F_a293 w), P293_1 w, if_pos (F_a295 w), L_a295 w, wp trivial, if_pos (by omega), r1, if_pos r2, r4, if_pos ob, if_pos (F_a293 w), if_pos (F_a295 w), if_pos (by omega), u1, if_pos u2, u4, if_pos hset, hr _ ob.1 ob.2, hr0 _ hset.1 hset.2, e124_51, e124_53, wk h0 h1 (by decide)]
theorem sLst_b (T S : Wd) (m : Nat) (p set : Int) : sLst T S m p set = -2 ∨ (0 ≤ sLst T S m p set ∧ sLst T S m p set < 5) := by
  unfold sLst
  dsimp only
  rcases fnd_rng (f := fun i => mbit T S p set i && decide (w32 (1 + mst T S m (p + 1) (or32 set (shl32 1 i))) = mst T S (m + 1) p set)) 5 0 with q | ⟨q1, q2, -⟩
  · rw [q]; exact Or.inl rfl
  · rw [if_neg (by omega)]; exact Or.inr ⟨q1, q2⟩
theorem kq_121 (c : CK h s b) (k0 : SOK (sV h s b)) (d : Nat) : ∃ h', C (d + 2) 121 [(2, 293), (2, s)] h = some ((9, 0), h') ∧ Mx 293 307 s b h h' (sV h s b) ∧ ld h' 293 3 = mst (tC h b) (sV h s b) (ld h b 11).toNat 0 0 ∧ ∀ q, 0 ≤ q → q < ld h b 11 → ld h' 307 q = mtk (tC h b) (sV h s b) (ld h b 11).toNat 0 0 q := by
  obtain ⟨w, hs, hb, e, hT, -⟩ := id c
  have hN : 0 ≤ ld h b 11 ∧ ld h b 11 ≤ 10 := hT.2.2.1
  generalize hnp : ld h b 11 = np at *
  -- the takers
  have p4 : ∀ (n : Nat) (p set : Int) (h1 : Hp), Mx 293 307 s b h h1 (sV h s b) → Rows h1 (tC h b) (sV h s b) np 0 → 0 ≤ p → p + n = np → (0 ≤ set ∧ set < 32) → ld h1 293 3 = mst (tC h b) (sV h s b) np.toNat 0 0 → (∀ q, 0 ≤ q → q < p → ld h1 307 q = mtk (tC h b) (sV h s b) np.toNat 0 0 q) → (∀ q, p ≤ q → mtk (tC h b) (sV h s b) np.toNat 0 0 q = mtk (tC h b) (sV h s b) n p set q) →
      ∃ h', V (d + 2) 121 105 [(2, 293), (9, 0), (0, np), (0, set), (0, p)] [] h1 = some ((9, 0), h') ∧ Mx 293 307 s b h h' (sV h s b) ∧ ld h' 293 3 = mst (tC h b) (sV h s b) np.toNat 0 0 ∧ ∀ q, 0 ≤ q → q < np → ld h' 307 q = mtk (tC h b) (sV h s b) np.toNat 0 0 q := by
    intro n
    induction n with
    | zero =>
      intro p set h1 m1 rw1 hp hn hset g3 g7 gm
      exact ⟨h1, by rw [e121_105, if_neg (by omega), e121_159], m1, g3, fun q q0 q1 => g7 q q0 (by omega)⟩
    | succ n ih =>
      intro p set h1 m1 rw1 hp hn hset g3 g7 gm
      obtain ⟨c1, t1, s1⟩ := CK_mx c m1 (by decide) k0
      obtain ⟨w1, -⟩ := id c1
      have hpb : 0 ≤ p ∧ p < 10 := by omega
      have a4 := kq_124 w1 (T := tC h b) (S := sV h s b) (m := n) hpb (fun st0 a0 a1 => by have := rw1.1 (p + 1) st0 (by omega) (by omega) a0 a1; rw [show (np - (p + 1)).toNat = n by omega] at this; exact this) (fun st0 a0 a1 => by have := rw1.1 p st0 (by omega) (by omega) a0 a1; rw [show (np - p).toNat = n + 1 by omega] at this; exact this) (rw1.2 p hp (by omega)) hset (d + 1)
      have m2 : Mx 293 307 s b h1 (st h1 307 p (sLst (tC h b) (sV h s b) n p set)) (sV h1 s b) := Mx_st c1 (by decide) (by decide) (npt_A (by decide +kernel) _)
      rw [s1] at m2
      have w2 := m2.1
      have lv : ld (st h1 307 p (sLst (tC h b) (sV h s b) n p set)) 307 p = sLst (tC h b) (sV h s b) n p set := ld_st_eq _ _ _ _
      have wp : True → w32 (p + 1) = p + 1 := fun _ => wk hpb.1 hpb.2 (by decide)
      rw [e121_105, if_pos (by omega), if_pos (F_a293 w1), if_pos (F_a293 w1), Cl_eq _ a4, P293_2 w1, if_pos (W_a307 w1), L_a307 w1, if_pos (by omega), e121_125, if_pos (F_a293 w2), P293_2 w2, if_pos (F_a307 w2), L_a307 w2, if_pos (by omega), lv]
      have nx : ∀ set', (if sLst (tC h b) (sV h s b) n p set = -2 then set else or32 set (shl32 1 (sLst (tC h b) (sV h s b) n p set))) = set' → (0 ≤ set' ∧ set' < 32) → ∃ h', V (d + 2) 121 105 [(2, 293), (9, 0), (0, np), (0, set'), (0, p + 1)] [] (st h1 307 p (sLst (tC h b) (sV h s b) n p set)) = some ((9, 0), h') ∧ Mx 293 307 s b h h' (sV h s b) ∧ ld h' 293 3 = mst (tC h b) (sV h s b) np.toNat 0 0 ∧ ∀ q, 0 ≤ q → q < np → ld h' 307 q = mtk (tC h b) (sV h s b) np.toNat 0 0 q := fun set' es hs' => by
        have hp0 := gm p (Int.le_refl _)
        have hpe : mtk (tC h b) (sV h s b) (n + 1) p set p = sLst (tC h b) (sV h s b) n p set := if_pos rfl
        refine ih (p + 1) set' _ (Mx_tr m1 m2) ⟨fun q st0 a0 a1 a2 a3 => (ld_st_ne (Or.inl (by omega))).trans (rw1.1 q st0 a0 a1 a2 a3), fun q a0 a1 => (ld_st_ne (Or.inl (by decide))).trans (rw1.2 q a0 a1)⟩ (by omega) (by omega) hs' ((ld_st_ne (Or.inl (by decide))).trans g3) (fun q q0 q1 => ?_) (fun q q0 => ?_)
        · by_cases qe : q = p
          · subst qe; rw [ld_st_eq, hp0, hpe]
          · rw [ld_st_ne (Or.inr qe)]; exact g7 q q0 (by omega)
        · rw [gm q (by omega)]
          show (if q = p then _ else _) = _
          rw [if_neg (by omega), es]
      by_cases q : sLst (tC h b) (sV h s b) n p set = -2
      · rw [if_pos q, e121_151, or_0 hset, wp trivial]
        exact nx set (if_pos q) hset
      · have lb := (sLst_b (tC h b) (sV h s b) n p set).resolve_left q
        rw [if_neg q, e121_142, if_pos (F_a293 w2), P293_2 w2, if_pos (F_a307 w2), L_a307 w2, if_pos (by omega), lv, e121_151, wp trivial]
        exact nx _ (if_neg q) (or_b hset lb)
  -- a row
  have p3 : ∀ (p : Int), 0 ≤ p → p < np → ∀ (n : Nat) (set : Int) (h1 : Hp), Mx 293 307 s b h h1 (sV h s b) → Rows h1 (tC h b) (sV h s b) np (p + 1) → ld h1 294 p = sTkr (tC h b) (sV h s b) p → 0 ≤ set → set + n = 32 → (∀ st0, 0 ≤ st0 → st0 < set → ld h1 (296 + p) st0 = mst (tC h b) (sV h s b) (np - p).toNat p st0) →
      ∃ h', V (d + 2) 121 53 [(2, 293), (2, s), (0, np), (0, p), (0, set)] [] h1 = V (d + 2) 121 82 [(2, 293), (2, s), (0, np), (0, p), (9, 0)] [] h' ∧ Mx 293 307 s b h h' (sV h s b) ∧ Rows h' (tC h b) (sV h s b) np p := by
    intro p hp0 hp1 n
    induction n with
    | zero =>
      intro set h1 m1 rw1 ht h0 hn g
      refine ⟨h1, by rw [e121_53, if_neg (by omega)], m1, fun q st0 a0 a1 a2 a3 => ?_, fun q a0 a1 => ?_⟩
      · by_cases qe : q = p
        · subst qe; exact g st0 a2 (by omega)
        · exact rw1.1 q st0 (by omega) a1 a2 a3
      · by_cases qe : q = p
        · subst qe; exact ht
        · exact rw1.2 q (by omega) a1
    | succ n ih =>
      intro set h1 m1 rw1 ht h0 hn g
      obtain ⟨c1, t1, s1⟩ := CK_mx c m1 (by decide) k0
      obtain ⟨w1, -⟩ := id c1
      have hset : 0 ≤ set ∧ set < 32 := by omega
      obtain ⟨u1, u2, u3, u4, u5, u6⟩ := row_f w1 (k := p) (by omega)
      have a3 := kq_123 w1 (T := tC h b) (S := sV h s b) (m := (np - (p + 1)).toNat) (show 0 ≤ p ∧ p < 10 by omega) (fun st0 a0 a1 => rw1.1 (p + 1) st0 (by omega) (by omega) a0 a1) ht hset d
      rw [show (np - (p + 1)).toNat + 1 = (np - p).toNat by omega] at a3
      have m2 : Mx 293 307 s b h1 (st h1 (296 + p) set (mst (tC h b) (sV h s b) (np - p).toNat p set)) (sV h1 s b) := Mx_st c1 (by omega) (by decide) (u5 _)
      rw [s1] at m2
      obtain ⟨h', a, m, r⟩ := ih (set + 1) (st h1 (296 + p) set (mst (tC h b) (sV h s b) (np - p).toNat p set)) (Mx_tr m1 m2) ⟨fun q st0 a0 a1 a2 a3 => (ld_st_ne (Or.inl (by omega))).trans (rw1.1 q st0 a0 a1 a2 a3), fun q a0 a1 => (ld_st_ne (Or.inl (by omega))).trans (rw1.2 q a0 a1)⟩ ((ld_st_ne (Or.inl (by omega))).trans ht) (by omega) (by omega) (fun st0 a0 a1 => by
        by_cases qe : st0 = set
        · subst qe; rw [ld_st_eq]
        · rw [ld_st_ne (Or.inr qe)]; exact g st0 a0 (by omega))
      refine ⟨h', ?_, m, r⟩
      rw [e121_53, if_pos hset.2, if_pos (F_a293 w1), P293_1 w1, if_pos (F_a295 w1), L_a295 w1, if_pos (by omega), if_pos (F_a293 w1), Cl_eq _ a3, u1, if_pos u3, u4, if_pos hset, e121_76, wk hset.1 hset.2 (by decide)]
      exact a
  -- all rows
  have p2 : ∀ (n : Nat) (h1 : Hp), Mx 293 307 s b h h1 (sV h s b) → Rows h1 (tC h b) (sV h s b) np n → (n : Int) ≤ np →
      ∃ h', V (d + 2) 121 35 [(2, 293), (2, s), (0, np), (0, (n : Int) - 1), (9, 0)] [] h1 = V (d + 2) 121 88 [(2, 293), (9, 0), (0, np), (9, 0), (9, 0)] [] h' ∧ Mx 293 307 s b h h' (sV h s b) ∧ Rows h' (tC h b) (sV h s b) np 0 := by
    intro n
    induction n with
    | zero => intro h1 m1 rw1 _; exact ⟨h1, by rw [e121_35, if_pos (by omega)], m1, rw1⟩
    | succ n ih =>
      intro h1 m1 rw1 hn
      obtain ⟨c1, t1, s1⟩ := CK_mx c m1 (by decide) k0
      obtain ⟨w1, -⟩ := id c1
      have p1 : ld h1 b 11 = np := (congrFun (congrFun t1 2) 0).trans hnp
      have a2 := kq_122 c1 (p := (n : Int)) (by omega) d
      rw [t1, s1] at a2
      have m2 : Mx 293 307 s b h1 (st h1 294 (n : Int) (sTkr (tC h b) (sV h s b) n)) (sV h1 s b) := Mx_st c1 (by decide) (by decide) (npt_A (by decide +kernel) _)
      rw [s1] at m2
      have rw1 : Rows h1 (tC h b) (sV h s b) np ((n : Int) + 1) := rw1
      obtain ⟨h3, a3, m3, r3⟩ := p3 n (by omega) (by omega) 32 0 (st h1 294 (n : Int) (sTkr (tC h b) (sV h s b) n)) (Mx_tr m1 m2) ⟨fun q st0 z0 z1 z2 z3 => (ld_st_ne (Or.inl (by omega))).trans (rw1.1 q st0 z0 z1 z2 z3), fun q z0 z1 => (ld_st_ne (Or.inr (by omega))).trans (rw1.2 q z0 z1)⟩ (ld_st_eq _ _ _ _) (by decide) (by decide) (fun st0 z0 z1 => by omega)
      obtain ⟨h', a, m, r⟩ := ih h3 m3 r3 (by omega)
      refine ⟨h', ?_, m, r⟩
      rw [e121_35, if_neg (by omega), show ((n + 1 : Nat) : Int) - 1 = (n : Int) by omega, if_pos (F_a293 w1), Cl_eq _ a2, P293_0 w1, if_pos (W_a294 w1), L_a294 w1, if_pos (by omega), e121_50, a3, e121_82, show w32 ((n : Int) + -1) = (n : Int) - 1 by unfold w32; omega]
      exact a
  -- the last row
  have p1 : ∀ (n : Nat) (set : Int) (h1 : Hp), Mx 293 307 s b h h1 (sV h s b) → 0 ≤ set → set + n = 32 → (∀ st0, 0 ≤ st0 → st0 < set → ld h1 (296 + np) st0 = 0) →
      ∃ h', V (d + 2) 121 10 [(2, 293), (2, s), (0, np), (0, set), (9, 0)] [] h1 = V (d + 2) 121 31 [(2, 293), (2, s), (0, np), (9, 0), (9, 0)] [] h' ∧ Mx 293 307 s b h h' (sV h s b) ∧ Rows h' (tC h b) (sV h s b) np np := by
    intro n
    induction n with
    | zero =>
      intro set h1 m1 h0 hn g
      refine ⟨h1, by rw [e121_10, if_neg (by omega)], m1, fun q st0 a0 a1 a2 a3 => ?_, fun q a0 a1 => by omega⟩
      rw [show q = np by omega, g st0 a2 (by omega), show (np - np).toNat = 0 by omega]
      rfl
    | succ n ih =>
      intro set h1 m1 h0 hn g
      obtain ⟨c1, t1, s1⟩ := CK_mx c m1 (by decide) k0
      obtain ⟨w1, -⟩ := id c1
      have hset : 0 ≤ set ∧ set < 32 := by omega
      obtain ⟨u1, u2, u3, u4, u5, u6⟩ := row_f w1 (k := np) (by omega)
      have m2 : Mx 293 307 s b h1 (st h1 (296 + np) set 0) (sV h1 s b) := Mx_st c1 (by omega) (by decide) (u5 _)
      rw [s1] at m2
      obtain ⟨h', a, m, r⟩ := ih (set + 1) (st h1 (296 + np) set 0) (Mx_tr m1 m2) (by omega) (by omega) (fun st0 a0 a1 => by
        by_cases qe : st0 = set
        · subst qe; rw [ld_st_eq]
        · rw [ld_st_ne (Or.inr qe)]; exact g st0 a0 (by omega))
      refine ⟨h', ?_, m, r⟩
      rw [e121_10, if_pos hset.2, if_pos (F_a293 w1), P293_1 w1, if_pos (F_a295 w1), L_a295 w1, if_pos (by omega), u1, if_pos u3, u4, if_pos hset, e121_25, wk hset.1 hset.2 (by decide)]
      exact a
  obtain ⟨h1, a1, m1, r1⟩ := p1 32 0 h (Mx_of (Md_rf c)) (by decide) (by decide) (fun st0 z0 z1 => by omega)
  obtain ⟨h2, a2, m2, r2⟩ := p2 np.toNat h1 m1 (by rw [show ((np.toNat : Nat) : Int) = np by omega]; exact r1) (by omega)
  obtain ⟨c2, t2, s2⟩ := CK_mx c m2 (by decide) k0
  obtain ⟨w2, -⟩ := id c2
  obtain ⟨u1, u2, u3, u4, u5, u6⟩ := row_f w2 (k := 0) (by decide)
  have v0 : ld h2 (296 + 0) 0 = mst (tC h b) (sV h s b) np.toNat 0 0 := by
    have := r2.1 0 0 (by decide) (by omega) (by decide) (by decide)
    rw [show np - 0 = np by omega] at this; exact this
  have m3 : Mx 293 307 s b h2 (st h2 293 3 (mst (tC h b) (sV h s b) np.toNat 0 0)) (sV h2 s b) := Mx_st c2 (by decide) (by decide) (npt_J (by decide +kernel))
  rw [s2] at m3
  obtain ⟨h', a, m, g3, g7⟩ := p4 np.toNat 0 0 (st h2 293 3 (mst (tC h b) (sV h s b) np.toNat 0 0)) (Mx_tr m2 m3) ⟨fun q st0 a0 a1 z2 z3 => (ld_st_ne (Or.inl (by omega))).trans (r2.1 q st0 a0 a1 z2 z3), fun q a0 a1 => (ld_st_ne (Or.inl (by decide))).trans (r2.2 q a0 a1)⟩ (by decide) (by omega) (by decide) (ld_st_eq _ _ _ _) (fun q q0 q1 => by omega) (fun _ _ => rfl)
  refine ⟨h', ?_, m, g3, g7⟩
  rw [ce_121, e121_0, if_pos (sfF0 w hs), e, if_pos (bfF0 w hb), hnp, a1, e121_31, show w32 (np - 1) = ((np.toNat : Nat) : Int) - 1 by unfold w32; omega, a2, e121_88, if_pos (F_a293 w2), P293_1 w2, if_pos (F_a295 w2), L_a295 w2, if_pos (by decide), u1, if_pos u2, u4, if_pos (by decide), v0, if_pos (W_a293 w2), e121_100]
  exact a
end MA
