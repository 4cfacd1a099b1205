/-! layer 2: the signs that wait -/
def tlev (t : Int) : Int := (tokFd.getD (-1 - t).toNat []).getD 1 0
def lev : List Int → Int
  | [] => 0
  | t :: _ => tlev t
def WS (h : Hp) (W : List Int) : Prop := ld h 3 3 = (W.length : Int) ∧ stk h 36 W.length = W ∧ W.length ≤ 72 ∧ ∀ t ∈ W, -38 ≤ t ∧ t ≤ -1
section WA
variable {h : Hp} {tp : Int → Int} {b n pl : Int} {T : Wd} {tw hl kn : Int} {W : List Int}
theorem PL_3 (p : PL h tp b n pl T tw hl kn) {j : Int} (hj : 3 ≤ j ∧ j ≤ 4) (h5 : j ≠ 5) (v : Int) : PL (st h 3 j v) tp b n pl T tw hl kn := by
  obtain ⟨p1, p2, p3, p4, p5, p6, p7, p8, p9, p10⟩ := id p
  have hb := p1.2.2.1
  have eo : ∀ off : Int, 0 ≤ off → ∀ k, ld (st h 3 j v) (b + off) k = ld h (b + off) k := fun off o k => ld_st_ne (Or.inl (by rcases bk_b hb with rfl | rfl <;> omega))
  have e0 : ∀ k, ld (st h 3 j v) b k = ld h b k := fun k => ld_st_ne (Or.inl (by rcases bk_b hb with rfl | rfl <;> omega))
  exact ⟨PS_keep p1 (wf_st p1.1.1 (n3 (by omega) (by omega))) (fun k => ld_st_ne (Or.inl (by decide))) (fun k => ld_st_ne (Or.inl (by decide))) (ld_st_ne (Or.inr (by omega))), (tC_eq (fun i j0 _ _ _ _ k => eo i j0 k)).trans p2, (e0 8).trans p3, (e0 17).trans p4, (ld_st_ne (Or.inr (fun z => h5 z.symm))).trans p5, p6, CB_of p7 (fun off o1 _ i => eo off (by omega) i), p8, (ld_st_ne (Or.inr (by omega))).trans p9, (ld_st_ne (Or.inr (by omega))).trans p10⟩
theorem PL_5 (p : PL h tp b n pl T tw hl kn) (v : Int) : PL (st h 3 5 v) tp b n pl T tw hl v := by
  obtain ⟨p1, p2, p3, p4, p5, p6, p7, p8, p9, p10⟩ := id p
  have hb := p1.2.2.1
  have eo : ∀ off : Int, 0 ≤ off → ∀ k, ld (st h 3 5 v) (b + off) k = ld h (b + off) k := fun off o k => ld_st_ne (Or.inl (by rcases bk_b hb with rfl | rfl <;> omega))
  have e0 : ∀ k, ld (st h 3 5 v) b k = ld h b k := fun k => ld_st_ne (Or.inl (by rcases bk_b hb with rfl | rfl <;> omega))
  exact ⟨PS_keep p1 (wf_st p1.1.1 (n3 (by decide) (by decide))) (fun k => ld_st_ne (Or.inl (by decide))) (fun k => ld_st_ne (Or.inl (by decide))) (ld_st_ne (Or.inr (by decide))), (tC_eq (fun i j0 _ _ _ _ k => eo i j0 k)).trans p2, (e0 8).trans p3, (e0 17).trans p4, ld_st_eq _ _ _ _, p6, CB_of p7 (fun off o1 _ i => eo off (by omega) i), p8, (ld_st_ne (Or.inr (by decide))).trans p9, (ld_st_ne (Or.inr (by decide))).trans p10⟩
theorem PL_36 (p : PL h tp b n pl T tw hl kn) (j v : Int) : PL (st h 36 j v) tp b n pl T tw hl kn := by
  obtain ⟨p1, p2, p3, p4, p5, p6, p7, p8, p9, p10⟩ := id p
  have hb := p1.2.2.1
  have eo : ∀ off : Int, 0 ≤ off → ∀ k, ld (st h 36 j v) (b + off) k = ld h (b + off) k := fun off o k => ld_st_ne (Or.inl (by rcases bk_b hb with rfl | rfl <;> omega))
  have e0 : ∀ k, ld (st h 36 j v) b k = ld h b k := fun k => ld_st_ne (Or.inl (by rcases bk_b hb with rfl | rfl <;> omega))
  exact ⟨PS_keep p1 (wf_st p1.1.1 (npt_A (by decide +kernel) _)) (fun k => ld_st_ne (Or.inl (by decide))) (fun k => ld_st_ne (Or.inl (by decide))) (ld_st_ne (Or.inl (by decide))), (tC_eq (fun i j0 _ _ _ _ k => eo i j0 k)).trans p2, (e0 8).trans p3, (e0 17).trans p4, (ld_st_ne (Or.inl (by decide))).trans p5, p6, CB_of p7 (fun off o1 _ i => eo off (by omega) i), p8, (ld_st_ne (Or.inl (by decide))).trans p9, (ld_st_ne (Or.inl (by decide))).trans p10⟩
/-- a knot more -/
theorem kq_52 (p : PL h tp b n pl T tw hl kn) (hk : 0 ≤ kn ∧ kn ≤ 64) (d : Nat) : C (d + 1) 52 [(2, 3)] h = (if kn < 64 then some ((0, 1), st h 3 5 (kn + 1)) else some ((0, 0), st (st (st h 3 5 (kn + 1)) 3 7 2) 3 8 pl)) ∧ PL (st h 3 5 (kn + 1)) tp b n pl T tw hl (kn + 1) := by
  have w := p.1.1.1
  have l1 := PL_5 p (kn + 1)
  have w1 := l1.1.1.1
  refine ⟨?_, l1⟩
  rw [ce_52, e52_0, if_pos (F_a3 w), if_pos (W_a3 w), p.2.2.2.2.1, show w32 (kn + 1) = kn + 1 by unfold w32; omega, e52_10, if_pos (F_a3 w1), ld_st_eq]
  by_cases q : kn < 64
  · rw [if_neg (by omega), if_pos q, e52_27, e52_32, if_pos (by decide)]
  · rw [if_pos (by omega), if_neg q, if_pos (F_a3 w1), Cl_eq _ (kq_35 l1.1 2 d).1, if_pos rfl, e52_31, e52_32, if_pos (by decide)]
/-- how strongly the last one binds -/
theorem kq_54 (w : WF h) (ws : WS h W) (d : Nat) : C d 54 [(2, 3)] h = some ((0, lev W), h) := by
  obtain ⟨w1, w2, w3, w4⟩ := ws
  rw [ce_54, e54_0, if_pos (F_a3 w), w1]
  cases W with
  | nil => rw [if_neg (by decide), e54_19]; rfl
  | cons t W =>
    have hl : (((t :: W).length : Nat) : Int) = (W.length : Int) + 1 := by rw [List.length_cons]; omega
    have ht := w4 t List.mem_cons_self
    have e : ld h 36 (W.length : Int) = t := (List.cons.inj w2).1
    have w3 : W.length + 1 ≤ 72 := w3
    rw [hl, if_pos (by omega), if_pos (F_a3 w), if_pos (F_a3 w), P3_2 w, if_pos (F_a36 w), L_a36 w, if_neg (by omega), e54_21, if_pos (F_a3 w), if_pos (F_a3 w), P3_2 w, if_pos (F_a36 w), w1, hl, show w32 ((W.length : Int) + 1 - 1) = (W.length : Int) by unfold w32; omega, L_a36 w, if_pos (by omega), e, if_neg (by omega), e54_41, if_pos (tk_F ht), tk_ld w ht 1, e54_45]
    rfl
/-- one more waits -/
theorem kq_53 (p : PL h tp b n pl T tw hl kn) (ws : WS h W) (h72 : W.length < 72) {t : Int} (ht : -38 ≤ t ∧ t ≤ -1) (d : Nat) : C d 53 [(2, 3), (2, t)] h = some ((0, 1), st (st h 36 (W.length : Int) t) 3 3 ((W.length : Int) + 1)) ∧ PL (st (st h 36 (W.length : Int) t) 3 3 ((W.length : Int) + 1)) tp b n pl T tw hl kn ∧ WS (st (st h 36 (W.length : Int) t) 3 3 ((W.length : Int) + 1)) (t :: W) := by
  have w := p.1.1.1
  obtain ⟨w1, w2, w3, w4⟩ := ws
  have l1 := PL_36 p (W.length : Int) t
  have l2 := PL_3 l1 (j := 3) (by decide) (by decide) ((W.length : Int) + 1)
  have g3 : ld (st h 36 (W.length : Int) t) 3 3 = (W.length : Int) := (ld_st_ne (Or.inl (by decide))).trans w1
  refine ⟨?_, l2, ?_, ?_, ?_, ?_⟩
  · rw [ce_53, e53_0, if_pos (F_a3 w), if_pos (F_a3 w), P3_2 w, if_pos (F_a36 w), w1, L_a36 w, if_pos (by omega), e53_18, if_pos (F_a3 w), if_pos (F_a3 w), P3_2 w, if_pos (W_a36 w), w1, L_a36 w, if_pos (by omega), if_pos (tk_F ht), e53_28, if_pos (F_a3 l1.1.1.1), if_pos (W_a3 l1.1.1.1), g3, show w32 ((W.length : Int) + 1) = (W.length : Int) + 1 by unfold w32; omega, e53_38, if_pos (by decide)]
  · rw [ld_st_eq, List.length_cons]; omega
  · show ld (st (st h 36 (W.length : Int) t) 3 3 ((W.length : Int) + 1)) 36 (W.length : Int) :: stk (st (st h 36 (W.length : Int) t) 3 3 ((W.length : Int) + 1)) 36 W.length = t :: W
    rw [ld_st_ne (Or.inl (by decide)), ld_st_eq, stk_cong (h := h) (fun j j0 j1 => by rw [ld_st_ne (Or.inl (by decide)), ld_st_ne (Or.inr (by omega))]), w2]
  · rw [List.length_cons]; omega
  · intro x hx
    rcases List.mem_cons.mp hx with z | z
    · rw [z]; exact ht
    · exact w4 x z
end WA
