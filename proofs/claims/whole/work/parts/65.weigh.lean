/-! layer 2: one set of pieces is weighed -/
theorem pt_in {x : Int × Int × Int} (e : PTL.contains x = true) : x ∈ PTL := List.contains_iff_mem.mp e
theorem P283_6 {h : Hp} (w : WF h) : ld h 283 6 = 284 := wf_pt w (pt_in (by decide +kernel))
theorem P283_7 {h : Hp} (w : WF h) : ld h 283 7 = 285 := wf_pt w (pt_in (by decide +kernel))
theorem P283_8 {h : Hp} (w : WF h) : ld h 283 8 = 286 := wf_pt w (pt_in (by decide +kernel))
section HA
variable {h : Hp}
theorem kq_117 (w : WF h) {l : List Cn} (hl : l.length ≤ 10) (pa : PA h l) (hc : ∀ c ∈ l, 0 ≤ c.2.1 ∧ c.2.1 ≤ 999) (m : Nat) (free : Int) {o : Option Cn} (po : PO h o) (d : Nat) :
    ∃ h', C d 117 [(2, 283), (0, (m : Int)), (0, (l.length : Int)), (0, free)] h = some ((9, 0), h') ∧ PO h' (btr free o (wg l m (0, 0, 0))) ∧ WF h' ∧ h'.2 = h.2 ∧ ∀ a j, a ≠ 283 → ld h' a j = ld h a j := by
  have key : ∀ (cs : List Cn) (i : Nat) (A : Cn), l.drop i = cs → i + cs.length = l.length → V d 117 12 [(2, 283), (0, (m : Int)), (0, (l.length : Int)), (0, free), (0, A.1), (0, A.2.1), (0, A.2.2), (0, (i : Int))] [] h = V d 117 75 [(2, 283), (9, 0), (9, 0), (0, free), (0, (wg cs m A).1), (0, (wg cs m A).2.1), (0, (wg cs m A).2.2), (9, 0)] [] h := by
    intro cs
    induction cs with
    | nil => intro i A _ hi; rw [List.length_nil] at hi; rw [e117_12, if_neg (by omega)]; rfl
    | cons c cs ih =>
      intro i A hd hi
      rw [List.length_cons] at hi
      have hil : i < l.length := by omega
      have h32 : cs.length < 32 := by omega
      have hget : l.getD i (0, 0, 0) = c := by
        have : l[i]? = some c := by rw [← List.head?_drop, hd]; rfl
        rw [List.getD_eq_getElem?_getD, this]; rfl
      obtain ⟨p1, p2, p3⟩ := pa i hil
      rw [hget] at p1 p2 p3
      have hdr : l.drop (i + 1) = cs := by rw [← List.drop_drop, hd]; rfl
      have hw : True → w32 (w32 ((l.length : Int) - 1) - (i : Int)) = ((cs.length : Nat) : Int) := fun _ => by unfold w32; omega
      have hw1 : True → w32 ((i : Int) + 1) = ((i + 1 : Nat) : Int) := fun _ => by unfold w32; omega
      have step : ∀ B : Cn, V d 117 69 [(2, 283), (0, (m : Int)), (0, (l.length : Int)), (0, free), (0, B.1), (0, B.2.1), (0, B.2.2), (0, (i : Int))] [] h = V d 117 75 [(2, 283), (9, 0), (9, 0), (0, free), (0, (wg cs m B).1), (0, (wg cs m B).2.1), (0, (wg cs m B).2.2), (9, 0)] [] h := fun B => by
        rw [e117_69, hw1 trivial]; exact ih (i + 1) B hdr (by omega)
      rw [e117_12, if_pos (by omega), hw trivial]
      simp only [bit_n h32]
      show _ = V d 117 75 [(2, 283), (9, 0), (9, 0), (0, free), (0, (wg cs m (if m / 2 ^ cs.length % 2 = 1 then tk c A else A)).1), (0, (wg cs m (if m / 2 ^ cs.length % 2 = 1 then tk c A else A)).2.1), (0, (wg cs m (if m / 2 ^ cs.length % 2 = 1 then tk c A else A)).2.2), (9, 0)] [] h
      by_cases q : m / 2 ^ cs.length % 2 = 1
      · rw [if_neg (fun z => z q), if_pos q, e117_31, if_pos (F_a283 w), P283_6 w, if_pos (F_a284 w), L_a284 w, if_pos (by omega), e117_45, if_pos (F_a283 w), P283_7 w, if_pos (F_a285 w), L_a285 w, if_pos (by omega), e117_57, if_pos (F_a283 w), P283_8 w, if_pos (F_a286 w), L_a286 w, if_pos (by omega), p1, p2, p3]
        exact step (tk c A)
      · rw [if_pos q, if_neg q]
        exact step A
  have wz := wg_w l m (0, 0, 0) hc (by decide) (by show (0 : Int) + 999 * (l.length : Int) ≤ 1000000; omega)
  rw [ce_117, e117_0]
  have := key l 0 (0, 0, 0) rfl (by omega)
  rw [show ((0 : Nat) : Int) = 0 from rfl] at this
  rw [this, e117_75]
  generalize wg l m (0, 0, 0) = A at *
  unfold btr
  by_cases q1 : free < A.2.2
  · rw [if_pos q1, if_pos q1, e117_126]
    exact ⟨h, rfl, po, w, rfl, fun _ _ _ => rfl⟩
  · rw [if_neg q1, if_neg q1, if_pos (F_a283 w)]
    have upd : ∃ h', V d 117 108 [(2, 283), (9, 0), (9, 0), (9, 0), (0, A.1), (0, A.2.1), (0, A.2.2), (9, 0)] [] h = some ((9, 0), h') ∧ PO h' (some A) ∧ WF h' ∧ h'.2 = h.2 ∧ ∀ a j, a ≠ 283 → ld h' a j = ld h a j := by
      have w1 : WF (st h 283 3 A.2.1) := wf_st w (pnt_n 3 (by decide))
      have w2 : WF (st (st h 283 3 A.2.1) 283 4 A.2.2) := wf_st w1 (pnt_n 4 (by decide))
      have w3 : WF (st (st (st h 283 3 A.2.1) 283 4 A.2.2) 283 5 A.1) := wf_st w2 (pnt_n 5 (by decide))
      refine ⟨st (st (st h 283 3 A.2.1) 283 4 A.2.2) 283 5 A.1, ?_, ⟨?_, ?_, ld_st_eq _ _ _ _, wz⟩, w3, rfl, fun a j e => ?_⟩
      · rw [e117_108, if_pos (W_a283 w), if_pos (W_a283 w1), e117_120, if_pos (W_a283 w2), e117_126]
      · rw [ld_st_ne (Or.inr (by decide)), ld_st_ne (Or.inr (by decide)), ld_st_eq]
      · rw [ld_st_ne (Or.inr (by decide)), ld_st_eq]
      · rw [ld_st_ne (Or.inl e), ld_st_ne (Or.inl e), ld_st_ne (Or.inl e)]
    cases o with
    | none =>
      have po : ld h 283 3 = -1 := po
      rw [po, if_pos (by omega)]
      exact upd
    | some B =>
      obtain ⟨o1, o2, o3, o4⟩ := po
      show ∃ h', _ ∧ PO h' (if B.2.1 < A.2.1 ∨ (A.2.1 = B.2.1 ∧ A.2.2 < B.2.2) then some A else some B) ∧ _
      rw [o1]
      by_cases q2 : B.2.1 < A.2.1
      · rw [if_pos q2, if_pos (Or.inl q2)]; exact upd
      · rw [if_neg q2, e117_90, if_pos (F_a283 w), o1]
        by_cases q3 : A.2.1 = B.2.1
        · rw [if_pos q3, if_pos (F_a283 w), o2]
          by_cases q4 : A.2.2 < B.2.2
          · rw [if_pos q4, if_pos (Or.inr ⟨q3, q4⟩)]; exact upd
          · rw [if_neg q4, if_neg (fun z => z.elim q2 (fun y => q4 y.2)), e117_126]
            exact ⟨h, rfl, ⟨o1, o2, o3, o4⟩, w, rfl, fun _ _ _ => rfl⟩
        · rw [if_neg q3, if_neg (fun z => z.elim q2 (fun y => q3 y.1)), e117_126]
          exact ⟨h, rfl, ⟨o1, o2, o3, o4⟩, w, rfl, fun _ _ _ => rfl⟩
end HA
