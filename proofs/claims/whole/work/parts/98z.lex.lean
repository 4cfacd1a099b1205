/-! layer 2: the plain program reads words -/
def rwk (i : Nat) : Nat := if i < 11 then 7 + i else if i = 11 then 5 else if i = 12 then 6 else if i = 13 then 4 else 4 + i
def rws (i : Nat) : Nat := [0, 8, 15, 21, 25, 30, 35, 40, 44, 50, 55, 59, 62, 66, 70, 75, 80, 86, 92, 96, 101, 106].getD i 0
theorem rw_tb : (List.range 21).all (fun i => decide (rws (i + 1) = rws i + (sby (rwk i)).length + 1) && decide (rwk i < 25) && decide (1 ≤ (sby (rwk i)).length ∧ (sby (rwk i)).length ≤ 7) && decide (rws i + (sby (rwk i)).length < 106) && decide ((sby 2).getD (rws i + (sby (rwk i)).length) 0 = 32) && (List.range (sby (rwk i)).length).all (fun j => decide ((sby 2).getD (rws i + j) 0 = (sby (rwk i)).getD j 0 ∧ ¬ (sby (rwk i)).getD j 0 = 32))) = true := by decide +kernel
theorem rw_d : (List.range 21).all (fun i => (List.range i).all (fun k => !((sby (rwk i)) == (sby (rwk k))))) = true := by decide +kernel
theorem rw_f {i : Nat} (hi : i < 21) : rws (i + 1) = rws i + (sby (rwk i)).length + 1 ∧ rwk i < 25 ∧ (1 ≤ (sby (rwk i)).length ∧ (sby (rwk i)).length ≤ 7) ∧ rws i + (sby (rwk i)).length < 106 ∧ (sby 2).getD (rws i + (sby (rwk i)).length) 0 = 32 ∧ ∀ j, j < (sby (rwk i)).length → (sby 2).getD (rws i + j) 0 = (sby (rwk i)).getD j 0 ∧ ¬ (sby (rwk i)).getD j 0 = 32 := by
  have t := List.all_eq_true.mp rw_tb i (List.mem_range.mpr hi)
  simp only [Bool.and_eq_true, decide_eq_true_eq] at t
  obtain ⟨⟨⟨⟨⟨t1, t2⟩, t3⟩, t4⟩, t5⟩, t6⟩ := t
  exact ⟨t1, t2, t3, t4, t5, fun j hj => of_decide_eq_true (List.all_eq_true.mp t6 j (List.mem_range.mpr hj))⟩
theorem spk_iff {tp : Int → Int} {pl ln : Int} {k : Nat} : spk tp pl ln k = true ↔ ((sby k).length : Int) = ln ∧ ∀ j : Int, 0 ≤ j → j < ln → (sby k).getD j.toNat 0 = tp (pl + j) := by
  unfold spk
  rw [Bool.and_eq_true, decide_eq_true_eq]
  constructor
  · intro ⟨a, b⟩
    refine ⟨a, fun j j0 j1 => ?_⟩
    cases q : decide ((sby k).getD j.toNat 0 = tp (pl + j)) with
    | true => exact of_decide_eq_true q
    | false =>
      have : anyf (fun j => !decide ((sby k).getD j.toNat 0 = tp (pl + j))) ln.toNat 0 = true := (anyf_tt _ _).mpr ⟨j, j0, by omega, by rw [q]; rfl⟩
      rw [this] at b; cases b
  · intro ⟨a, b⟩
    refine ⟨a, ?_⟩
    cases q : anyf (fun j => !decide ((sby k).getD j.toNat 0 = tp (pl + j))) ln.toNat 0 with
    | false => rfl
    | true =>
      obtain ⟨j, j0, j1, j2⟩ := (anyf_tt _ _).mp q
      rw [decide_eq_true (b j j0 (by omega))] at j2; cases j2
theorem spk_u {tp : Int → Int} {pl ln : Int} {i k : Nat} (hi : i < 21) (hk : k < i) (a : spk tp pl ln (rwk i) = true) : spk tp pl ln (rwk k) = false := by
  cases q : spk tp pl ln (rwk k) with
  | false => rfl
  | true =>
    have t := List.all_eq_true.mp (List.all_eq_true.mp rw_d i (List.mem_range.mpr hi)) k (List.mem_range.mpr hk)
    obtain ⟨a1, a2⟩ := spk_iff.mp a
    obtain ⟨b1, b2⟩ := spk_iff.mp q
    have : sby (rwk i) = sby (rwk k) := by
      apply List.ext_getElem (by omega)
      intro n h1 h2
      have x := a2 (n : Int) (by omega) (by omega)
      have y := b2 (n : Int) (by omega) (by omega)
      rw [List.getD_eq_getElem?_getD, show ((n : Int)).toNat = n by omega, List.getElem?_eq_getElem h1] at x
      rw [List.getD_eq_getElem?_getD, show ((n : Int)).toNat = n by omega, List.getElem?_eq_getElem h2] at y
      exact x.trans y.symm
    rw [this] at t
    simp at t
section LX
variable {h h' : Hp} {z : Zt} {n : Int}
/-- a string of the plain program -/
theorem rs_F : okF h (-102) 33 = true := (sg_f (k := 2) (by decide)).1
theorem rs_c (w : WF h) {j : Int} (hj : 0 ≤ j ∧ j < 106) (d : Nat) : C (d + 3) 248 [(2, -102), (0, j)] h = some ((0, (sby 2).getD j.toNat 0), h) := kq_248 w (k := 2) (by decide) (by rw [show (sby 2).length = 106 by decide +kernel]; omega) d
theorem rs_n (w : WF h) (d : Nat) : C (d + 1) 247 [(2, -102)] h = some ((0, 106), h) := by
  have := kq_247 w (k := 2) (by decide) d
  rw [show (sby 2).length = 106 by decide +kernel] at this
  exact this
theorem wd_skip (w : WF h) {i : Nat} (hi : i < 21) (d : Nat) : ∀ (m j : Nat), j + m = (sby (rwk i)).length → V (d + 4) 143 97 [(2, 311), (0, (i : Int)), (0, ((rws i + j : Nat) : Int)), (9, 0)] [] h = V (d + 4) 143 4 [(2, 311), (0, ((i + 1 : Nat) : Int)), (0, ((rws (i + 1) : Nat) : Int)), (9, 0)] [] h
  | 0, j, hj => by
    obtain ⟨r1, r2, r3, r4, r5, r6⟩ := rw_f hi
    have e : rws i + j = rws i + (sby (rwk i)).length := by omega
    rw [e143_97, if_pos rs_F, Cl_eq _ (rs_c w ⟨by omega, by omega⟩ d), show (((rws i + j : Nat) : Int)).toNat = rws i + j by omega, e, r5, if_pos rfl, e143_114, show w32 ((i : Int) + 1) = ((i + 1 : Nat) : Int) by unfold w32; omega, show w32 (((rws i + (sby (rwk i)).length : Nat) : Int) + 1) = ((rws (i + 1) : Nat) : Int) by unfold w32; omega]
  | m + 1, j, hj => by
    obtain ⟨r1, r2, r3, r4, r5, r6⟩ := rw_f hi
    obtain ⟨s1, s2⟩ := r6 j (by omega)
    rw [e143_97, if_pos rs_F, Cl_eq _ (rs_c w ⟨by omega, by omega⟩ d), show (((rws i + j : Nat) : Int)).toNat = rws i + j by omega, s1, if_neg s2, e143_108, show w32 (((rws i + j : Nat) : Int) + 1) = ((rws i + (j + 1) : Nat) : Int) by unfold w32; omega]
    exact wd_skip w hi d m (j + 1) (by omega)
theorem wd_one (w : WF h) {tp : Int → Int} {pl at_ : Int} (ht : ∀ j : Int, 0 ≤ j → j < 700 → ld h 312 j = tp j) (h27 : ld h 311 27 = pl) (h26 : ld h 311 26 = at_) (hb : 0 ≤ pl ∧ pl ≤ at_ ∧ at_ ≤ 700) {i : Nat} (hi : i < 21) (d : Nat) : ∀ (m j : Nat), j + m = (sby (rwk i)).length → (∀ k : Int, 0 ≤ k → k < j → pl + k < at_ ∧ (sby (rwk i)).getD k.toNat 0 = tp (pl + k)) → V (d + 4) 143 15 [(2, 311), (0, (i : Int)), (0, ((rws i : Nat) : Int)), (0, (j : Int))] [] h = if spk tp pl (at_ - pl) (rwk i) = true then some ((0, (i : Int)), h) else V (d + 4) 143 4 [(2, 311), (0, ((i + 1 : Nat) : Int)), (0, ((rws (i + 1) : Nat) : Int)), (9, 0)] [] h := by
  obtain ⟨r1, r2, r3, r4, r5, r6⟩ := rw_f hi
  have wp : ∀ j : Nat, j ≤ 7 → w32 (((rws i : Nat) : Int) + (j : Int)) = ((rws i + j : Nat) : Int) := fun j hj => by unfold w32; omega
  have wq : ∀ j : Nat, j ≤ 7 → w32 (pl + (j : Int)) = pl + (j : Int) := fun j hj => by unfold w32; omega
  have e97 : V (d + 4) 143 97 [(2, 311), (0, (i : Int)), (0, ((rws i : Nat) : Int)), (9, 0)] [] h = V (d + 4) 143 4 [(2, 311), (0, ((i + 1 : Nat) : Int)), (0, ((rws (i + 1) : Nat) : Int)), (9, 0)] [] h := wd_skip w hi d (sby (rwk i)).length 0 (by omega)
  have ch : ∀ j : Nat, j ≤ (sby (rwk i)).length → C (d + 3) 248 [(2, -102), (0, ((rws i + j : Nat) : Int))] h = some ((0, (sby 2).getD (rws i + j) 0), h) := fun j hj => by
    have := rs_c w (j := ((rws i + j : Nat) : Int)) ⟨by omega, by omega⟩ d
    rw [show (((rws i + j : Nat) : Int)).toNat = rws i + j by omega] at this
    exact this
  intro m
  induction m with
  | zero =>
    intro j hj hm
    have ej : j = (sby (rwk i)).length := by omega
    have e69 : V (d + 4) 143 15 [(2, 311), (0, (i : Int)), (0, ((rws i : Nat) : Int)), (0, (j : Int))] [] h = if pl + (j : Int) = at_ then some ((0, (i : Int)), h) else V (d + 4) 143 97 [(2, 311), (0, (i : Int)), (0, ((rws i : Nat) : Int)), (9, 0)] [] h := by
      rw [e143_15, if_pos rs_F, wp j (by omega), Cl_eq _ (ch j (by omega)), ej, r5, if_pos rfl, e143_69, if_pos rs_F, wp _ (by omega), Cl_eq _ (ch _ (by omega)), r5, if_pos rfl, e143_82, if_pos (F_a311 w), if_pos (F_a311 w), h27, h26, wq _ (by omega), e143_95]
    rw [e69]
    by_cases q : pl + (j : Int) = at_
    · rw [if_pos q, if_pos (spk_iff.mpr ⟨by omega, fun k k0 k1 => (hm k k0 (by omega)).2⟩)]
    · rw [if_neg q, if_neg (fun u => q (by have := (spk_iff.mp u).1; omega)), e97]
  | succ m ih =>
    intro j hj hm
    obtain ⟨s1, s2⟩ := r6 j (by omega)
    have no : (¬ (pl + (j : Int) < at_) ∨ ¬ ld h 312 (pl + j) = (sby (rwk i)).getD j 0) → ¬ spk tp pl (at_ - pl) (rwk i) = true := fun e u => by
      obtain ⟨u1, u2⟩ := spk_iff.mp u
      rcases e with e | e
      · omega
      · have := u2 (j : Int) (by omega) (by omega)
        rw [show ((j : Int)).toNat = j by omega] at this
        rw [ht _ (by omega) (by omega)] at e
        exact e this.symm
    have e69 : V (d + 4) 143 69 [(2, 311), (0, (i : Int)), (0, ((rws i : Nat) : Int)), (0, (j : Int))] [] h = V (d + 4) 143 97 [(2, 311), (0, (i : Int)), (0, ((rws i : Nat) : Int)), (9, 0)] [] h := by
      rw [e143_69, if_pos rs_F, wp j (by omega), Cl_eq _ (ch j (by omega)), s1, if_neg s2]
    have e15 : V (d + 4) 143 15 [(2, 311), (0, (i : Int)), (0, ((rws i : Nat) : Int)), (0, (j : Int))] [] h = if pl + (j : Int) < at_ then V (d + 4) 143 41 [(2, 311), (0, (i : Int)), (0, ((rws i : Nat) : Int)), (0, (j : Int))] [] h else V (d + 4) 143 69 [(2, 311), (0, (i : Int)), (0, ((rws i : Nat) : Int)), (0, (j : Int))] [] h := by
      rw [e143_15, if_pos rs_F, wp j (by omega), Cl_eq _ (ch j (by omega)), s1, if_neg s2, e143_28, if_pos (F_a311 w), if_pos (F_a311 w), h27, h26, wq _ (by omega)]
    rw [e15]
    by_cases q : pl + (j : Int) < at_
    · rw [if_pos q, e143_41, if_pos (F_a311 w), P_311_1 w, if_pos (F_a311 w), h27, wq _ (by omega), if_pos (F_a312 w), L_a312 w, if_pos (by omega), if_pos rs_F, wp j (by omega), Cl_eq _ (ch j (by omega)), s1]
      by_cases q2 : ld h 312 (pl + j) = (sby (rwk i)).getD j 0
      · rw [if_pos q2, e143_63, show w32 ((j : Int) + 1) = ((j + 1 : Nat) : Int) by unfold w32; omega]
        refine ih (j + 1) (by omega) (fun k k0 k1 => ?_)
        by_cases y : k < j
        · exact hm k k0 y
        · rw [show k = (j : Int) by omega, show ((j : Int)).toNat = j by omega]
          exact ⟨q, by rw [← q2, ht _ (by omega) (by omega)]⟩
      · rw [if_neg q2, e69, e97, if_neg (no (Or.inr q2))]
    · rw [if_neg q, e69, e97, if_neg (no (Or.inl q))]
theorem rk_143 (w : WF h) {tp : Int → Int} {pl at_ : Int} (ht : ∀ j : Int, 0 ≤ j → j < 700 → ld h 312 j = tp j) (h27 : ld h 311 27 = pl) (h26 : ld h 311 26 = at_) (hb : 0 ≤ pl ∧ pl ≤ at_ ∧ at_ ≤ 700) (d : Nat) : C (d + 4) 143 [(2, 311)] h = some ((0, fnd (fun i => spk tp pl (at_ - pl) (rwk i.toNat)) 21 0), h) := by
  have key : ∀ (m i : Nat), i + m = 21 → V (d + 4) 143 4 [(2, 311), (0, (i : Int)), (0, ((rws i : Nat) : Int)), (9, 0)] [] h = some ((0, fnd (fun i => spk tp pl (at_ - pl) (rwk i.toNat)) m i), h) := by
    intro m
    induction m with
    | zero =>
      intro i hi
      rw [show i = 21 by omega, e143_4, if_pos rs_F, Cl_eq _ (rs_n w (d + 2)), if_neg (by decide), e143_123]
      rfl
    | succ m ih =>
      intro i hi
      obtain ⟨r1, r2, r3, r4, r5, r6⟩ := rw_f (i := i) (by omega)
      have one := wd_one w ht h27 h26 hb (i := i) (by omega) d (sby (rwk i)).length 0 (by omega) (fun k k0 k1 => absurd k1 (by omega))
      unfold fnd
      rw [e143_4, if_pos rs_F, Cl_eq _ (rs_n w (d + 2)), if_pos (by omega)]
      rw [show ((0 : Nat) : Int) = 0 from rfl] at one
      rw [one, show ((i : Int)).toNat = i by omega]
      by_cases q : spk tp pl (at_ - pl) (rwk i) = true
      · rw [if_pos q, if_pos q]
      · rw [if_neg q, if_neg q, ih (i + 1) (by omega)]
        rfl
  rw [ce_143, e143_0]
  exact key 21 0 (by omega)
end LX
