/-! layer 2: the laws' values -/
def LM : Int := 1000000000000
def MINV : Int := -9223372036854775808
def ck (v : Int) : Option Int := if LM < v ∨ v < -LM then none else some v
def iabs (x : Int) : Int := if x < 0 then -x else x
/-- two values joined by a sign; none: an error -/
def jn (c x y : Int) : Option Int :=
  if c = 43 then ck (x + y) else if c = 45 then ck (x - y)
  else if c = 42 then (if x = 0 then ck (x * y) else if LM.tdiv (iabs x) < iabs y then none else ck (x * y))
  else if c = 47 then (if y = 0 then none else ck (x.tdiv y))
  else if c = 60 then some (bI (decide (x < y))) else if c = 256 then some (bI (!decide (y < x)))
  else if c = 61 then some (bI (decide (x = y))) else if c = 257 then some (bI (!decide (x = y)))
  else if c = 258 then some (bI (!decide (x < y))) else if c = 62 then some (bI (decide (y < x)))
  else if c = 261 then some (bI (!decide (x = 0) && !decide (y = 0)))
  else some (bI (!decide (x = 0) || !decide (y = 0)))
def kstep (nm : Int → Int) (so va : Int) (l : List Int) : Option (List Int) :=
  if so = 0 then some (va :: l) else if so = 1 then some (nm va :: l)
  else if va = 260 then (match l with | y :: r => some (bI (decide (y = 0)) :: r) | [] => none)
  else match l with | y :: x :: r => (match jn va x y with | some v => some (v :: r) | none => none) | _ => none
def krun (nm so va : Int → Int) : Nat → Int → List Int → Option (List Int)
  | 0, _, l => some l
  | n + 1, k, l => match kstep nm (so k) (va k) l with | some l' => krun nm so va n (k + 1) l' | none => none
def one1 (o : Option (List Int)) : Option Int := match o with | some [v] => some v | _ => none
def evl (nm so va : Int → Int) (n : Nat) : Option Int := one1 (krun nm so va n 0 [])
theorem lcm_l {x y : Int} : (lcm x y < 0) = (x < y) := by
  unfold lcm; apply propext; split
  · constructor <;> intro _ <;> first | assumption | decide
  · split <;> constructor <;> intro z <;> omega
theorem lcm_e {x y : Int} : (lcm x y = 0) = (x = y) := by
  unfold lcm; apply propext; split
  · constructor <;> intro z <;> omega
  · split <;> constructor <;> intro z <;> omega
theorem lcm_g {x y : Int} : (0 < lcm x y) = (y < x) := by
  unfold lcm; apply propext; split
  · constructor <;> intro z <;> omega
  · split <;> constructor <;> intro z <;> omega
theorem lb {P : Prop} {hP : Decidable P} {h : Hp} : (if P then some (((1 : Nat), (1 : Int)), h) else some ((1, 0), h)) = some ((1, bI (decide P)), h) := by
  unfold bI; by_cases q : P <;> simp [q]
theorem lbn {P : Prop} {hP : Decidable P} {h : Hp} : (if P then some (((1 : Nat), (0 : Int)), h) else some ((1, 1), h)) = some ((1, bI (!decide P)), h) := by
  unfold bI; by_cases q : P <;> simp [q]
theorem lb0 {P : Prop} {hP : Decidable P} {h : Hp} {q : Bool} : (if P then some (((1 : Nat), (0 : Int)), h) else some ((1, bI q), h)) = some ((1, bI (!decide P && q)), h) := by
  by_cases z : P <;> simp [z, bI]
theorem lb3 {P : Prop} {hP : Decidable P} {h : Hp} {q : Bool} : (if P then some (((1 : Nat), bI q), h) else some ((1, 1), h)) = some ((1, bI (!decide P || q)), h) := by
  by_cases z : P <;> simp [z, bI]
theorem iabs_nat (x : Int) : iabs x = (x.natAbs : Int) := by unfold iabs; split <;> omega
theorem mul_bd {x y : Int} (hx : x ≠ 0) (h : iabs y ≤ LM.tdiv (iabs x)) : -LM ≤ x * y ∧ x * y ≤ LM := by
  rw [iabs_nat, iabs_nat] at h
  have hp : (0 : Int) < (x.natAbs : Int) := by omega
  rw [Int.tdiv_eq_ediv_of_nonneg (by decide)] at h
  have h1 := (Int.le_ediv_iff_mul_le hp).mp h
  have h2 : (((x * y).natAbs : Nat) : Int) ≤ LM := by
    rw [Int.natAbs_mul, Int.mul_comm] at *
    push_cast
    first | exact h1 | (rw [Int.mul_comm]; exact h1)
  omega
theorem div_bd {x y : Int} (hx : -LM ≤ x ∧ x ≤ LM) : -LM ≤ x.tdiv y ∧ x.tdiv y ≤ LM := by
  have h1 : (x.tdiv y).natAbs ≤ x.natAbs := by rw [Int.natAbs_tdiv]; exact Nat.div_le_self _ _
  omega
/-! the constants as the heap has them -/
section KO
variable {h : Hp}
theorem tk_F {t : Int} (ht : -38 ≤ t ∧ t ≤ -1) : okF h t 32 = true := by
  have hs : shp h t = some (32, 4) := by
    unfold shp
    rw [if_neg (by omega), if_neg (by omega)]
    unfold csh
    rw [if_pos ht.1]
  unfold okF; rw [hs]; rfl
theorem tk_ld (w : WF h) {t : Int} (ht : -38 ≤ t ∧ t ≤ -1) (j : Int) : ld h t j = (tokFd.getD (-1 - t).toNat []).getD j.toNat 0 := by
  show h.1 t j = _
  rw [w.2.2 t j (by omega) (by omega)]
  exact if_pos ht.1
theorem sw_F : okF h (-41) 0 = true ∧ len h (-41) = 38 := by
  have hs : shp h (-41) = some (0, 38) := rfl
  refine ⟨by unfold okF; rw [hs]; rfl, by unfold len; rw [hs]; rfl⟩
theorem sw_ld (w : WF h) (j : Int) : ld h (-41) j = swm.getD j.toNat 0 := (w.2.2 (-41) j (by decide) (by decide)).trans rfl
theorem kq_241 {t : Int} (ht : okF h t 32 = true) (d : Nat) : C d 241 [(2, t)] h = some ((0, ld h t 3), h) := by
  rw [ce_241, e241_0, if_pos ht]

theorem jn_7 (w : WF h) (d : Nat) (x y : Int) : C (d + 1) 83 [(2, -8), (1, x), (1, y)] h = V (d + 1) 83 144 [(9, 0), (1, x), (9, 0), (1, y), (9, 0)] [] h := by
  rw [ce_83, e83_0]
  simp only [tk_F (h := h) (t := -8) (by decide), if_true, Cl_eq _ (kq_241 (h := h) (t := -8) (tk_F (by decide)) d), (tk_ld w (t := -8) (by decide) 3).trans (show _ = (7 : Int) from rfl), (sw_F (h := h)).1, (sw_F (h := h)).2, (sw_ld w 7).trans (show _ = (16 : Int) from rfl), Int.reduceLE, Int.reduceLT, Int.reduceEq, Int.reduceNeg, and_self, if_false, reduceIte]
theorem jn_8 (w : WF h) (d : Nat) (x y : Int) : C (d + 1) 83 [(2, -9), (1, x), (1, y)] h = V (d + 1) 83 156 [(9, 0), (1, x), (9, 0), (1, y), (9, 0)] [] h := by
  rw [ce_83, e83_0]
  simp only [tk_F (h := h) (t := -9) (by decide), if_true, Cl_eq _ (kq_241 (h := h) (t := -9) (tk_F (by decide)) d), (tk_ld w (t := -9) (by decide) 3).trans (show _ = (8 : Int) from rfl), (sw_F (h := h)).1, (sw_F (h := h)).2, (sw_ld w 8).trans (show _ = (17 : Int) from rfl), Int.reduceLE, Int.reduceLT, Int.reduceEq, Int.reduceNeg, and_self, if_false, reduceIte]
theorem jn_9 (w : WF h) (d : Nat) (x y : Int) : C (d + 1) 83 [(2, -10), (1, x), (1, y)] h = V (d + 1) 83 168 [(9, 0), (1, x), (9, 0), (1, y), (9, 0)] [] h := by
  rw [ce_83, e83_0]
  simp only [tk_F (h := h) (t := -10) (by decide), if_true, Cl_eq _ (kq_241 (h := h) (t := -10) (tk_F (by decide)) d), (tk_ld w (t := -10) (by decide) 3).trans (show _ = (9 : Int) from rfl), (sw_F (h := h)).1, (sw_F (h := h)).2, (sw_ld w 9).trans (show _ = (18 : Int) from rfl), Int.reduceLE, Int.reduceLT, Int.reduceEq, Int.reduceNeg, and_self, if_false, reduceIte]
theorem jn_10 (w : WF h) (d : Nat) (x y : Int) : C (d + 1) 83 [(2, -11), (1, x), (1, y)] h = V (d + 1) 83 180 [(9, 0), (1, x), (9, 0), (1, y), (9, 0)] [] h := by
  rw [ce_83, e83_0]
  simp only [tk_F (h := h) (t := -11) (by decide), if_true, Cl_eq _ (kq_241 (h := h) (t := -11) (tk_F (by decide)) d), (tk_ld w (t := -11) (by decide) 3).trans (show _ = (10 : Int) from rfl), (sw_F (h := h)).1, (sw_F (h := h)).2, (sw_ld w 10).trans (show _ = (19 : Int) from rfl), Int.reduceLE, Int.reduceLT, Int.reduceEq, Int.reduceNeg, and_self, if_false, reduceIte]
theorem jn_11 (w : WF h) (d : Nat) (x y : Int) : C (d + 1) 83 [(2, -12), (1, x), (1, y)] h = V (d + 1) 83 192 [(9, 0), (1, x), (9, 0), (1, y), (9, 0)] [] h := by
  rw [ce_83, e83_0]
  simp only [tk_F (h := h) (t := -12) (by decide), if_true, Cl_eq _ (kq_241 (h := h) (t := -12) (tk_F (by decide)) d), (tk_ld w (t := -12) (by decide) 3).trans (show _ = (11 : Int) from rfl), (sw_F (h := h)).1, (sw_F (h := h)).2, (sw_ld w 11).trans (show _ = (20 : Int) from rfl), Int.reduceLE, Int.reduceLT, Int.reduceEq, Int.reduceNeg, and_self, if_false, reduceIte]
theorem jn_12 (w : WF h) (d : Nat) (x y : Int) : C (d + 1) 83 [(2, -13), (1, x), (1, y)] h = V (d + 1) 83 204 [(9, 0), (1, x), (9, 0), (1, y), (9, 0)] [] h := by
  rw [ce_83, e83_0]
  simp only [tk_F (h := h) (t := -13) (by decide), if_true, Cl_eq _ (kq_241 (h := h) (t := -13) (tk_F (by decide)) d), (tk_ld w (t := -13) (by decide) 3).trans (show _ = (12 : Int) from rfl), (sw_F (h := h)).1, (sw_F (h := h)).2, (sw_ld w 12).trans (show _ = (21 : Int) from rfl), Int.reduceLE, Int.reduceLT, Int.reduceEq, Int.reduceNeg, and_self, if_false, reduceIte]
theorem jn_13 (w : WF h) (d : Nat) (x y : Int) : C (d + 1) 83 [(2, -14), (1, x), (1, y)] h = V (d + 1) 83 72 [(9, 0), (1, x), (9, 0), (1, y), (9, 0)] [] h := by
  rw [ce_83, e83_0]
  simp only [tk_F (h := h) (t := -14) (by decide), if_true, Cl_eq _ (kq_241 (h := h) (t := -14) (tk_F (by decide)) d), (tk_ld w (t := -14) (by decide) 3).trans (show _ = (13 : Int) from rfl), (sw_F (h := h)).1, (sw_F (h := h)).2, (sw_ld w 13).trans (show _ = (12 : Int) from rfl), Int.reduceLE, Int.reduceLT, Int.reduceEq, Int.reduceNeg, and_self, if_false, reduceIte]
theorem jn_14 (w : WF h) (d : Nat) (x y : Int) : C (d + 1) 83 [(2, -15), (1, x), (1, y)] h = V (d + 1) 83 76 [(9, 0), (1, x), (9, 0), (1, y), (9, 0)] [] h := by
  rw [ce_83, e83_0]
  simp only [tk_F (h := h) (t := -15) (by decide), if_true, Cl_eq _ (kq_241 (h := h) (t := -15) (tk_F (by decide)) d), (tk_ld w (t := -15) (by decide) 3).trans (show _ = (14 : Int) from rfl), (sw_F (h := h)).1, (sw_F (h := h)).2, (sw_ld w 14).trans (show _ = (13 : Int) from rfl), Int.reduceLE, Int.reduceLT, Int.reduceEq, Int.reduceNeg, and_self, if_false, reduceIte]
theorem jn_15 (w : WF h) (d : Nat) (x y : Int) : C (d + 1) 83 [(2, -16), (1, x), (1, y)] h = V (d + 1) 83 80 [(9, 0), (1, x), (9, 0), (1, y), (9, 0)] [] h := by
  rw [ce_83, e83_0]
  simp only [tk_F (h := h) (t := -16) (by decide), if_true, Cl_eq _ (kq_241 (h := h) (t := -16) (tk_F (by decide)) d), (tk_ld w (t := -16) (by decide) 3).trans (show _ = (15 : Int) from rfl), (sw_F (h := h)).1, (sw_F (h := h)).2, (sw_ld w 15).trans (show _ = (14 : Int) from rfl), Int.reduceLE, Int.reduceLT, Int.reduceEq, Int.reduceNeg, and_self, if_false, reduceIte]
theorem jn_16 (w : WF h) (d : Nat) (x y : Int) : C (d + 1) 83 [(2, -17), (1, x), (1, y)] h = V (d + 1) 83 128 [(9, 0), (1, x), (9, 0), (1, y), (9, 0)] [] h := by
  rw [ce_83, e83_0]
  simp only [tk_F (h := h) (t := -17) (by decide), if_true, Cl_eq _ (kq_241 (h := h) (t := -17) (tk_F (by decide)) d), (tk_ld w (t := -17) (by decide) 3).trans (show _ = (16 : Int) from rfl), (sw_F (h := h)).1, (sw_F (h := h)).2, (sw_ld w 16).trans (show _ = (15 : Int) from rfl), Int.reduceLE, Int.reduceLT, Int.reduceEq, Int.reduceNeg, and_self, if_false, reduceIte]
theorem jn_17 (w : WF h) (d : Nat) (x y : Int) : C (d + 1) 83 [(2, -18), (1, x), (1, y)] h = V (d + 1) 83 234 [(9, 0), (1, x), (9, 0), (1, y), (9, 0)] [] h := by
  rw [ce_83, e83_0]
  simp only [tk_F (h := h) (t := -18) (by decide), if_true, Cl_eq _ (kq_241 (h := h) (t := -18) (tk_F (by decide)) d), (tk_ld w (t := -18) (by decide) 3).trans (show _ = (17 : Int) from rfl), (sw_F (h := h)).1, (sw_F (h := h)).2, (sw_ld w 17).trans (show _ = (23 : Int) from rfl), Int.reduceLE, Int.reduceLT, Int.reduceEq, Int.reduceNeg, and_self, if_false, reduceIte]
theorem jn_18 (w : WF h) (d : Nat) (x y : Int) : C (d + 1) 83 [(2, -19), (1, x), (1, y)] h = V (d + 1) 83 216 [(9, 0), (1, x), (9, 0), (1, y), (9, 0)] [] h := by
  rw [ce_83, e83_0]
  simp only [tk_F (h := h) (t := -19) (by decide), if_true, Cl_eq _ (kq_241 (h := h) (t := -19) (tk_F (by decide)) d), (tk_ld w (t := -19) (by decide) 3).trans (show _ = (18 : Int) from rfl), (sw_F (h := h)).1, (sw_F (h := h)).2, (sw_ld w 18).trans (show _ = (22 : Int) from rfl), Int.reduceLE, Int.reduceLT, Int.reduceEq, Int.reduceNeg, and_self, if_false, reduceIte]
theorem kq_83 (w : WF h) {t x y : Int} (ht : -19 ≤ t ∧ t ≤ -8) (hx : -LM ≤ x ∧ x ≤ LM) (hy : -LM ≤ y ∧ y ≤ LM) (d : Nat) : ∃ r, C (d + 1) 83 [(2, t), (1, x), (1, y)] h = some ((1, r), h) ∧ (match jn (tokOp (-1 - t).toNat) x y with | none => LM < r ∨ r < -LM | some v => r = v ∧ -LM ≤ v ∧ v ≤ LM) := by
  have hbI : ∀ q : Bool, -LM ≤ bI q ∧ bI q ≤ LM := fun q => by cases q <;> decide
  have hLM : LM = 1000000000000 := rfl
  have h12 : t = -8 ∨ t = -9 ∨ t = -10 ∨ t = -11 ∨ t = -12 ∨ t = -13 ∨ t = -14 ∨ t = -15 ∨ t = -16 ∨ t = -17 ∨ t = -18 ∨ t = -19 := by omega
  rcases h12 with rfl | rfl | rfl | rfl | rfl | rfl | rfl | rfl | rfl | rfl | rfl | rfl
  · exact ⟨_, by rw [jn_7 w]; simp only [e83_144, e83_154, e83_155, lcm_l]; exact lb, rfl, hbI _⟩
  · exact ⟨_, by rw [jn_8 w]; simp only [e83_156, e83_166, e83_167, lcm_g]; exact lbn, rfl, hbI _⟩
  · exact ⟨_, by rw [jn_9 w]; simp only [e83_168, e83_178, e83_179, lcm_e]; exact lb, rfl, hbI _⟩
  · exact ⟨_, by rw [jn_10 w]; simp only [e83_180, e83_190, e83_191, lcm_e]; exact lbn, rfl, hbI _⟩
  · exact ⟨_, by rw [jn_11 w]; simp only [e83_192, e83_202, e83_203, lcm_l]; exact lbn, rfl, hbI _⟩
  · exact ⟨_, by rw [jn_12 w]; simp only [e83_204, e83_214, e83_215, lcm_g]; exact lb, rfl, hbI _⟩
  · refine ⟨w64 (x + y), by rw [jn_13 w, e83_72], ?_⟩
    show (match ck (x + y) with | none => _ | some v => _)
    have e : w64 (x + y) = x + y := by unfold w64; omega
    rw [e]; unfold ck
    split
    · rename_i q; split at q <;> first | assumption | cases q
    · rename_i q; split at q <;> cases q
      exact ⟨rfl, by omega, by omega⟩
  · refine ⟨w64 (x - y), by rw [jn_14 w, e83_76], ?_⟩
    show (match ck (x - y) with | none => _ | some v => _)
    have e : w64 (x - y) = x - y := by unfold w64; omega
    rw [e]; unfold ck
    split
    · rename_i q; split at q <;> first | assumption | cases q
    · rename_i q; split at q <;> cases q
      exact ⟨rfl, by omega, by omega⟩
  · have hfin : ∀ (_ : -LM ≤ x * y ∧ x * y ≤ LM), ck (x * y) = some (x * y) ∧ w64 (x * y) = x * y := fun q => ⟨by unfold ck; rw [if_neg (by omega)], by unfold w64; omega⟩
    show ∃ r, _ ∧ (match (if x = 0 then ck (x * y) else if LM.tdiv (iabs x) < iabs y then none else ck (x * y)) with | none => _ | some v => _)
    by_cases h0 : x = 0
    · obtain ⟨q1, q2⟩ := hfin (by rw [h0, Int.zero_mul]; decide)
      refine ⟨x * y, by rw [jn_15 w, e83_80]; simp only [lcm_e, if_pos h0, e83_124, e83_127, q2], ?_⟩
      rw [if_pos h0, q1]
      exact ⟨rfl, by rw [h0, Int.zero_mul]; decide⟩
    · have hm : w64 (-x) = -x := by unfold w64; omega
      have hmy : w64 (-y) = -y := by unfold w64; omega
      have hdd : ∀ z : Int, z ≠ 0 → w64 (Int.tdiv 1000000000000 z) = Int.tdiv 1000000000000 z := fun z hz => by
        have := div_bd (x := LM) (y := z) ⟨by decide, by decide⟩
        have this : -LM ≤ Int.tdiv 1000000000000 z ∧ Int.tdiv 1000000000000 z ≤ LM := this
        unfold w64; omega
      have key : V (d + 1) 83 80 [(9, 0), (1, x), (9, 0), (1, y), (9, 0)] [] h = if LM.tdiv (iabs x) < iabs y then some ((1, MINV), h) else some ((1, w64 (x * y)), h) := by
        rw [e83_80]
        simp only [lcm_e, if_neg h0, lcm_l, e83_92, e83_97, hmy, e83_98, hm, e83_112, e83_113, lcm_g, e83_127, e83_124]
        unfold iabs
        by_cases a1 : y < 0 <;> by_cases a2 : x < 0
        · simp only [if_pos a1, if_pos a2, if_neg (show ¬ -x = 0 by omega), hdd (-x) (by omega)]; rfl
        · simp only [if_pos a1, if_neg a2, if_neg h0, hdd x h0]; rfl
        · simp only [if_neg a1, if_pos a2, if_neg (show ¬ -x = 0 by omega), hdd (-x) (by omega)]; rfl
        · simp only [if_neg a1, if_neg a2, if_neg h0, hdd x h0]; rfl
      rw [if_neg h0]
      by_cases hg : LM.tdiv (iabs x) < iabs y
      · exact ⟨MINV, by rw [jn_15 w, key, if_pos hg], by rw [if_pos hg]; exact Or.inr (by decide)⟩
      · have hb := mul_bd h0 (by omega : iabs y ≤ LM.tdiv (iabs x))
        obtain ⟨q1, q2⟩ := hfin hb
        refine ⟨x * y, by rw [jn_15 w, key, if_neg hg, q2], ?_⟩
        rw [if_neg hg, q1]
        exact ⟨rfl, hb⟩
  · show ∃ r, _ ∧ (match (if y = 0 then none else ck (x.tdiv y)) with | none => _ | some v => _)
    by_cases h0 : y = 0
    · exact ⟨MINV, by rw [jn_16 w, e83_128]; simp only [lcm_e, if_pos h0, e83_143]; rfl, by rw [if_pos h0]; exact Or.inr (by decide)⟩
    · have hb := div_bd (y := y) hx
      have e : w64 (x.tdiv y) = x.tdiv y := by unfold w64; omega
      refine ⟨x.tdiv y, by rw [jn_16 w, e83_128]; simp only [lcm_e, if_neg h0, e83_140, e83_143, e], ?_⟩
      rw [if_neg h0]
      have : ck (x.tdiv y) = some (x.tdiv y) := by unfold ck; rw [if_neg (by omega)]
      rw [this]
      exact ⟨rfl, hb⟩
  · refine ⟨bI (!decide (x = 0) || !decide (y = 0)), ?_, rfl, hbI _⟩
    rw [jn_17 w, e83_234]
    simp only [lcm_e, e83_246, e83_250, e83_251]
    by_cases h1 : x = 0 <;> by_cases h2 : y = 0 <;> simp [h1, h2, bI]
  · refine ⟨bI (!decide (x = 0) && !decide (y = 0)), ?_, rfl, hbI _⟩
    rw [jn_18 w, e83_216]
    simp only [lcm_e, e83_228, e83_232, e83_233]
    by_cases h1 : x = 0 <;> by_cases h2 : y = 0 <;> simp [h1, h2, bI]
end KO
