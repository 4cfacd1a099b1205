/-! layer 2: the first state of both -/
section FS
variable {xs : Nat → Int32} {L : Nat}
def bm (xs : Nat → Int32) : Int → Int → Int := fun a j => if a < 0 then gcmC xs a j else 0
def tF0 : List (Nat × Nat) := tP3 ++ [(1, Int.toNat 1)]
def z00 : Zt := (fun _ => 0, 0, 0, -1, fun _ _ => 0, fun _ _ => 0, none, fun _ _ => 0, [], fun _ => 0, fun _ => 0, 0, -1)
theorem lk_no {a j : Int} : ∀ W : List (Int × Int × Int), (W.all fun q => decide (¬ a = q.1)) = true → lk W a j = none
  | [], _ => rfl
  | q :: r, h => by
    rw [List.all_cons, Bool.and_eq_true, decide_eq_true_eq] at h
    unfold lk
    rw [if_neg (fun u => h.1 u.1)]
    exact lk_no r h.2
theorem bm_0 {a j : Int} (ha : 0 < a) : bm xs a j = 0 := if_neg (by omega)
theorem v0 {a j : Int} (e : lk WQ a j = none) (ha : 0 < a) : ld (HH (bm xs) L tF0 WQ) a j = 0 := (ld_nk e).trans (bm_0 ha)
theorem va {a : Int} (e : (WQ.all fun q => decide (¬ a = q.1)) = true) (ha : 0 < a) (j : Int) : ld (HH (bm xs) L tF0 WQ) a j = 0 := v0 (lk_no WQ e) ha
theorem vp {a j v : Int} (e : lk WQ a j = some v) : ld (HH (bm xs) L tF0 WQ) a j = v := ld_lk e
theorem tF_SH : tF0 = SH := by decide +kernel
theorem pt_all : (PTL.all fun q => decide (lk WQ q.1 q.2.1 = some q.2.2)) = true := by decide +kernel
theorem pos_all : (WQ.all fun q => decide (0 < q.1)) = true := by decide +kernel
theorem WF_F : WF (HH (bm xs) L tF0 WQ) := by
  refine ⟨tF_SH, fun q hq => vp (of_decide_eq_true (List.all_eq_true.mp pt_all q hq)), fun a j a0 a1 => ?_⟩
  have e : lk WQ a j = none := lk_no WQ (by
    rw [List.all_eq_true]
    intro q hq
    have := of_decide_eq_true (List.all_eq_true.mp pos_all q hq)
    exact decide_eq_true (by omega))
  have e2 : ld (HH (bm xs) L tF0 WQ) a j = bm xs a j := ld_nk e
  refine e2.trans ?_
  unfold bm
  rw [if_pos a0]
  unfold gcmC
  by_cases h : -38 ≤ a
  · rw [if_pos h, if_pos h]
  · rw [if_neg h, if_neg h, if_neg a1, if_neg a1]
theorem rng00 (i v : Int) : rng i 0 v = 0 := by unfold rng; rw [if_neg (by omega)]
theorem tC_F : tC (HH (bm xs) L tF0 WQ) 37 = fun _ _ => 0 := by
  funext f i
  have c0 : ld (HH (bm xs) L tF0 WQ) 37 0 = 0 := v0 (by decide +kernel) (by decide)
  have c4 : ld (HH (bm xs) L tF0 WQ) 37 4 = 0 := v0 (by decide +kernel) (by decide)
  have c11 : ld (HH (bm xs) L tF0 WQ) 37 11 = 0 := v0 (by decide +kernel) (by decide)
  have c15 : ld (HH (bm xs) L tF0 WQ) 37 15 = 0 := v0 (by decide +kernel) (by decide)
  have c53 : ld (HH (bm xs) L tF0 WQ) (37 + 16) i = 0 := va (by decide +kernel) (by decide) i
  have c55 : ld (HH (bm xs) L tF0 WQ) (37 + 18) 3 = 0 := v0 (by decide +kernel) (by decide)
  have c59 : ld (HH (bm xs) L tF0 WQ) (37 + 22) 3 = 0 := v0 (by decide +kernel) (by decide)
  have c63 : ld (HH (bm xs) L tF0 WQ) (37 + 26) 3 = 0 := v0 (by decide +kernel) (by decide)
  have r100 : rng i 100 0 = 0 := by unfold rng; split <;> rfl
  generalize HH (bm xs) L tF0 WQ = hF at *
  unfold tC
  split <;> first | rfl | (simp only [c0, c4, c11, c15, c53, c55, c59, c63, rng00, r100])
theorem sC_F (ns np : Int) (h1 : ns = 0) (h2 : np = 0) : sC (HH (bm xs) L tF0 WQ) 97 ns np = fun _ _ => 0 := by
  funext f i
  have c1 : ld (HH (bm xs) L tF0 WQ) 97 1 = 0 := v0 (by decide +kernel) (by decide)
  have c2 : ld (HH (bm xs) L tF0 WQ) 97 2 = 0 := v0 (by decide +kernel) (by decide)
  have c3 : ld (HH (bm xs) L tF0 WQ) 97 3 = 0 := v0 (by decide +kernel) (by decide)
  have c4 : ld (HH (bm xs) L tF0 WQ) 97 4 = 0 := v0 (by decide +kernel) (by decide)
  have c5 : ld (HH (bm xs) L tF0 WQ) 97 5 = 0 := v0 (by decide +kernel) (by decide)
  have c10 : ld (HH (bm xs) L tF0 WQ) 97 10 = 0 := v0 (by decide +kernel) (by decide)
  generalize HH (bm xs) L tF0 WQ = hF at *
  unfold sC
  split <;> first | rfl | (simp only [c1, c2, c3, c4, c5, c10, h1, h2, rng00])
theorem sV_F : sV (HH (bm xs) L tF0 WQ) 97 37 = fun _ _ => 0 := by
  unfold sV
  exact sC_F _ _ (v0 (by decide +kernel) (by decide)) (v0 (by decide +kernel) (by decide))
theorem CK_F : CK (HH (bm xs) L tF0 WQ) 97 37 := by
  refine ⟨WF_F, by decide, by decide, vp (by decide +kernel), by rw [tC_F]; exact TOK_0, ?_, fun f i => by rw [tC_F]; exact (I32_of (by decide) : I32 0), fun f i => by rw [sV_F]; exact (I32_of (by decide) : I32 0)⟩
  intro k k0 k3
  have e : ld (HH (bm xs) L tF0 WQ) (37 + 18 + 4 * k) 3 = 0 := by
    have h3 : k = 0 ∨ k = 1 ∨ k = 2 := by omega
    rcases h3 with rfl | rfl | rfl
    · exact v0 (by decide +kernel) (by decide)
    · exact v0 (by decide +kernel) (by decide)
    · exact v0 (by decide +kernel) (by decide)
  rw [e]
  exact ⟨by decide, fun i i0 i1 => by omega⟩
theorem CR_F : CR (HH (bm xs) L tF0 WQ) z00 := by
  have e13 : ld (HH (bm xs) L tF0 WQ) 1 3 = 37 := vp (by decide +kernel)
  have e14 : ld (HH (bm xs) L tF0 WQ) 1 4 = 67 := vp (by decide +kernel)
  have i0 : I32 0 := I32_of (by decide)
  refine ⟨WF_F, by rw [e13]; decide, by rw [e14]; decide, by rw [e13, e14]; decide, funext fun j => va (by decide +kernel) (by decide) j, v0 (by decide +kernel) (by decide), by show (0 : Int) ≤ 0 ∧ (0 : Int) ≤ 700; decide, by unfold NB; rw [v0 (by decide +kernel) (by decide)]; decide, v0 (by decide +kernel) (by decide), vp (by decide +kernel), by rw [e13]; exact tC_F, by rw [e13]; exact CK_F, by rw [e13]; exact sV_F, ⟨fun _ _ => i0, Int.le_refl 0, by show (0 : Int) ≤ 40; decide, fun _ => rfl⟩, by show (0 : Int) ≤ 0 ∧ (0 : Int) ≤ 100; decide, fun _ => v0 (by decide +kernel) (by decide), fun I e => (by change (none : Option Wd) = some I at e; cases e), fun w t w0 w3 t0 t1 => ?_, by rw [v0 (by decide +kernel) (by decide)]; decide, v0 (by decide +kernel) (by decide), by show (0 : Nat) ≤ 20; decide, fun i P e => (by change ([] : List Wd)[i]? = some P at e; simp at e), fun k _ _ => va (by decide +kernel) (by decide) k, fun k _ _ => va (by decide +kernel) (by decide) k, v0 (by decide +kernel) (by decide), by show (0 : Int) ≤ 0 ∧ (0 : Int) ≤ 24; decide, vp (by decide +kernel), by show (-1 : Int) ≤ -1 ∧ (-1 : Int) ≤ 0; decide⟩
  have h3 : w = 0 ∨ w = 1 ∨ w = 2 := by omega
  rcases h3 with rfl | rfl | rfl
  · exact va (a := 288 + 0) (by decide +kernel) (by decide) t
  · exact va (a := 288 + 1) (by decide +kernel) (by decide) t
  · exact va (a := 288 + 2) (by decide +kernel) (by decide) t
theorem RT_F : RT (HH (bm xs) L tF0 WQ) (fun _ _ => 0) := by
  have c : ∀ j : Int, j = 0 ∨ j = 1 ∨ j = 2 ∨ j = 3 ∨ j = 5 → ld (HH (bm xs) L tF0 WQ) 313 j = 0 := fun j hj => va (by decide +kernel) (by decide) j
  have c9 : ∀ j, ld (HH (bm xs) L tF0 WQ) 329 j = 0 := fun j => va (by decide +kernel) (by decide) j
  have c0 : ∀ j, ld (HH (bm xs) L tF0 WQ) 330 j = 0 := fun j => va (by decide +kernel) (by decide) j
  refine ⟨WF_F, ?_, TOK_0, fun _ _ => (I32_of (by decide) : I32 0), fun k _ _ => by rw [c9, c0]; decide, by rw [c 5 (by decide)]; decide⟩
  funext f i
  have hh : ∀ i, hailAt (HH (bm xs) L tF0 WQ) i = false := fun i => by
    unfold hailAt; rw [c 5 (by decide)]; rfl
  have r100 : rng i 100 0 = 0 := by unfold rng; split <;> rfl
  have s0 : (0 : Int) - 0 = 0 := rfl
  generalize HH (bm xs) L tF0 WQ = hF at *
  unfold tR
  split <;> first | rfl | (simp only [c 0 (by decide), c 1 (by decide), c 2 (by decide), c 3 (by decide), c9, c0, s0, hh, bI_f, rng00, r100])
theorem sIni_0 : sInit (fun _ _ => 0) = fun _ _ => 0 := by
  funext f i
  unfold sInit
  split <;> first | rfl | exact rng00 _ _
theorem RR_F : RR 0 (HH (bm xs) L tF0 WQ) z00 := by
  have rt : RT (HH (bm xs) L tF0 WQ) (fun _ _ => 0) := RT_F
  have iv := IV_ini rt TX_0 (Int.le_refl 0)
  rw [sIni_0] at iv
  have rk : RK (HH (bm xs) L tF0 WQ) 0 (fun _ _ => 0) (fun _ _ => 0) := by
    refine ⟨rt, by decide, ?_, fun _ _ => (I32_of (by decide) : I32 0)⟩
    funext f i
    have a3 : ld (HH (bm xs) L tF0 WQ) 333 0 = 0 := vp (by decide +kernel)
    have a4 : ld (HH (bm xs) L tF0 WQ) 334 0 = 0 := vp (by decide +kernel)
    have a5 : ld (HH (bm xs) L tF0 WQ) 335 0 = 0 := vp (by decide +kernel)
    have a6 : ld (HH (bm xs) L tF0 WQ) 336 0 = 0 := vp (by decide +kernel)
    have a7 : ld (HH (bm xs) L tF0 WQ) 337 0 = 0 := vp (by decide +kernel)
    have a8 : ld (HH (bm xs) L tF0 WQ) 342 0 = 0 := vp (by decide +kernel)
    have x0 : and32 0 (xor32 0 (-1)) = 0 := by decide
    clear rt iv
    generalize HH (bm xs) L tF0 WQ = hF at *
    unfold sR
    split <;> first | rfl | (simp only [a3, a4, a5, a6, a7, a8, x0, rng00])
  refine ⟨rk, TX_0, iv, by decide, fun j _ _ => va (by decide +kernel) (by decide) j, v0 (by decide +kernel) (by decide), v0 (by decide +kernel) (by decide), vp (by decide +kernel), v0 (by decide +kernel) (by decide), fun _ => v0 (by decide +kernel) (by decide), fun I e => (by change (none : Option Wd) = some I at e; cases e), fun w t _ _ t0 t1 => absurd t1 (by show ¬ t < 0; omega), v0 (by decide +kernel) (by decide), by show (0 : Nat) ≤ 20; decide, fun i P e => (by change ([] : List Wd)[i]? = some P at e; simp at e), v0 (by decide +kernel) (by decide), by show (0 : Int) ≤ 0 ∧ (0 : Int) ≤ 24; decide, vp (by decide +kernel), by show (-1 : Int) ≤ -1 ∧ (-1 : Int) ≤ 0; decide, fun k k0 k1 => absurd k1 (by show ¬ k < 0; omega), vp (by decide +kernel), vp (by decide +kernel)⟩
/-- the whole law -/
theorem law_all (hL : L ≤ 3072) (e : Nat) : ∃ h', C (e + 200) 0 [(2, -50)] (HH (bm xs) L [] []) = some ((0, 1), h') ∧ h'.2.1 = SH ∧ h'.2.2.2 ≤ 513 := by
  have k1 := K_1 (m := bm xs) (L := L) (e + 193)
  have k2 := K_135 (m := bm xs) (L := L) (bm_0 (by decide)) (e + 198)
  have b : BY z00 := fun j _ _ => by show (0 : Int) ≤ 0 ∧ (0 : Int) ≤ 255; decide
  obtain ⟨h', a', s1, s2⟩ := loop_ok (L0 := L) hL e 513 0 0 (HH (bm xs) L tF0 WQ) z00 CR_F RR_F b rfl (by decide) (by omega) (by decide)
  have s2 : h'.2.2.2 ≤ 0 + 513 := s2
  refine ⟨h', ?_, s1.trans tF_SH, by omega⟩
  have e16 : C (e + 200) 0 [(2, -50)] (HH (bm xs) L [] []) = V (e + 200) 0 16 [(2, -50), (2, 1), (2, 311), (9, 0), (9, 0), (9, 0), (9, 0)] [] (HH (bm xs) L tP3 WQ) := by
    rw [ce_0, e0_0, if_pos HH_okN, HH_nxt, HH_alc]
    rw [show (((([] : List (Nat × Nat)).length + 1 : Nat)) : Int) = 1 from rfl, if_neg (by decide), show ([] : List (Nat × Nat)) ++ [(30, 15)] = [(30, 15)] from rfl, Cl_eq _ k1, if_pos HH_okN, HH_nxt, lS12, HH_alc]
    rw [show ((310 + 1 : Nat) : Int) = 311 from rfl, if_neg (by decide)]
    exact (Cl_eq _ k2).trans rfl
  rw [e16, e0_16, if_pos HH_okN, if_pos (by decide), HH_nxt, lP3, HH_alc]
  exact a'
end FS
