/-! layer 2: kin, twins, heirs, hail, knots put into a book -/
section BN
variable {h : Hp} {b : Int}
theorem tC_a10 {i : Int} (hi : 0 ≤ i ∧ i < (ld h b 4)) (v : Int) : tC (st h (b + 7) i v) b = up2 (tC h b) 10 i v := by
  generalize hh : st h (b + 7) i v = h1
  have o : ∀ off : Int, off ≠ 7 → ∀ j, ld h1 (b + off) j = ld h (b + off) j := fun off q j => by rw [← hh, ld_st_ne (Or.inl (by omega))]
  have ob : ∀ j : Int, ld h1 b j = ld h b j := fun j => by rw [← hh, ld_st_ne (Or.inl (by omega))]
  have oa : ∀ j, ld h1 (b + 7) j = if j = i then v else ld h (b + 7) j := fun j => by rw [← hh, ld_up]
  have kr : ∀ i j, krow h1 b i j = krow h b i j := fun i j => by unfold krow; rw [o 13 (by decide), o 14 (by decide), o 15 (by decide)]
  funext f j
  show _ = (if f = 10 ∧ j = i then v else tC h b f j)
  by_cases g : f = 10
  · subst g
    show rng j (ld h1 b 4) (ld h1 (b + 7) j) = (if _ then v else rng j (ld h b 4) (ld h (b + 7) j))
    rw [ob, oa]
    by_cases q : j = i
    · subst q; rw [if_pos rfl, if_pos ⟨rfl, rfl⟩, rng_in hi]
    · rw [if_neg q, if_neg (fun z => q z.2)]
  · rw [if_neg (fun z => g z.1)]
    unfold tC
    split <;> first | rfl | exact absurd rfl g | (simp only [o 1 (by decide), o 2 (by decide), o 3 (by decide), o 4 (by decide), o 5 (by decide), o 6 (by decide), o 8 (by decide), o 9 (by decide), o 10 (by decide), o 11 (by decide), o 13 (by decide), o 14 (by decide), o 15 (by decide), o 16 (by decide), o 18 (by decide), o 19 (by decide), o 20 (by decide), o 22 (by decide), o 23 (by decide), o 24 (by decide), o 26 (by decide), o 27 (by decide), o 28 (by decide), ob, kr]; done)
theorem tC_a11 {i : Int} (hi : 0 ≤ i ∧ i < (ld h b 4)) (v : Int) : tC (st h (b + 8) i v) b = up2 (tC h b) 11 i v := by
  generalize hh : st h (b + 8) i v = h1
  have o : ∀ off : Int, off ≠ 8 → ∀ j, ld h1 (b + off) j = ld h (b + off) j := fun off q j => by rw [← hh, ld_st_ne (Or.inl (by omega))]
  have ob : ∀ j : Int, ld h1 b j = ld h b j := fun j => by rw [← hh, ld_st_ne (Or.inl (by omega))]
  have oa : ∀ j, ld h1 (b + 8) j = if j = i then v else ld h (b + 8) j := fun j => by rw [← hh, ld_up]
  have kr : ∀ i j, krow h1 b i j = krow h b i j := fun i j => by unfold krow; rw [o 13 (by decide), o 14 (by decide), o 15 (by decide)]
  funext f j
  show _ = (if f = 11 ∧ j = i then v else tC h b f j)
  by_cases g : f = 11
  · subst g
    show rng j (ld h1 b 4) (ld h1 (b + 8) j) = (if _ then v else rng j (ld h b 4) (ld h (b + 8) j))
    rw [ob, oa]
    by_cases q : j = i
    · subst q; rw [if_pos rfl, if_pos ⟨rfl, rfl⟩, rng_in hi]
    · rw [if_neg q, if_neg (fun z => q z.2)]
  · rw [if_neg (fun z => g z.1)]
    unfold tC
    split <;> first | rfl | exact absurd rfl g | (simp only [o 1 (by decide), o 2 (by decide), o 3 (by decide), o 4 (by decide), o 5 (by decide), o 6 (by decide), o 7 (by decide), o 9 (by decide), o 10 (by decide), o 11 (by decide), o 13 (by decide), o 14 (by decide), o 15 (by decide), o 16 (by decide), o 18 (by decide), o 19 (by decide), o 20 (by decide), o 22 (by decide), o 23 (by decide), o 24 (by decide), o 26 (by decide), o 27 (by decide), o 28 (by decide), ob, kr]; done)
theorem tC_a18 {i : Int} (hi : 0 ≤ i ∧ i < 100) (v : Int) : tC (st h (b + 16) i v) b = up2 (tC h b) 18 i v := by
  generalize hh : st h (b + 16) i v = h1
  have o : ∀ off : Int, off ≠ 16 → ∀ j, ld h1 (b + off) j = ld h (b + off) j := fun off q j => by rw [← hh, ld_st_ne (Or.inl (by omega))]
  have ob : ∀ j : Int, ld h1 b j = ld h b j := fun j => by rw [← hh, ld_st_ne (Or.inl (by omega))]
  have oa : ∀ j, ld h1 (b + 16) j = if j = i then v else ld h (b + 16) j := fun j => by rw [← hh, ld_up]
  have kr : ∀ i j, krow h1 b i j = krow h b i j := fun i j => by unfold krow; rw [o 13 (by decide), o 14 (by decide), o 15 (by decide)]
  funext f j
  show _ = (if f = 18 ∧ j = i then v else tC h b f j)
  by_cases g : f = 18
  · subst g
    show rng j 100 (ld h1 (b + 16) j) = (if _ then v else rng j 100 (ld h (b + 16) j))
    rw [oa]
    by_cases q : j = i
    · subst q; rw [if_pos rfl, if_pos ⟨rfl, rfl⟩, rng_in hi]
    · rw [if_neg q, if_neg (fun z => q z.2)]
  · rw [if_neg (fun z => g z.1)]
    unfold tC
    split <;> first | rfl | exact absurd rfl g | (simp only [o 1 (by decide), o 2 (by decide), o 3 (by decide), o 4 (by decide), o 5 (by decide), o 6 (by decide), o 7 (by decide), o 8 (by decide), o 9 (by decide), o 10 (by decide), o 11 (by decide), o 13 (by decide), o 14 (by decide), o 15 (by decide), o 18 (by decide), o 19 (by decide), o 20 (by decide), o 22 (by decide), o 23 (by decide), o 24 (by decide), o 26 (by decide), o 27 (by decide), o 28 (by decide), ob, kr]; done)
theorem tC_f8 (v : Int) : tC (st h b 8 v) b = tC h b := by
  generalize hh : st h b 8 v = h1
  have o : ∀ off : Int, off ≠ 0 → ∀ j, ld h1 (b + off) j = ld h (b + off) j := fun off q j => by rw [← hh, ld_st_ne (Or.inl (by omega))]
  have ob : ∀ j : Int, j ≠ 8 → ld h1 b j = ld h b j := fun j q => by rw [← hh, ld_st_ne (Or.inr q)]
  have kr : ∀ i j, krow h1 b i j = krow h b i j := fun i j => by unfold krow; rw [o 13 (by decide), o 14 (by decide), o 15 (by decide)]
  funext f j
  unfold tC
  split <;> first | rfl | (simp only [o 1 (by decide), o 2 (by decide), o 3 (by decide), o 4 (by decide), o 5 (by decide), o 6 (by decide), o 7 (by decide), o 8 (by decide), o 9 (by decide), o 10 (by decide), o 11 (by decide), o 13 (by decide), o 14 (by decide), o 15 (by decide), o 16 (by decide), o 18 (by decide), o 19 (by decide), o 20 (by decide), o 22 (by decide), o 23 (by decide), o 24 (by decide), o 26 (by decide), o 27 (by decide), o 28 (by decide), ob 0 (by decide), ob 4 (by decide), ob 11 (by decide), ob 15 (by decide), kr]; done)
theorem tC_f17 (v : Int) : tC (st h b 17 v) b = tC h b := by
  generalize hh : st h b 17 v = h1
  have o : ∀ off : Int, off ≠ 0 → ∀ j, ld h1 (b + off) j = ld h (b + off) j := fun off q j => by rw [← hh, ld_st_ne (Or.inl (by omega))]
  have ob : ∀ j : Int, j ≠ 17 → ld h1 b j = ld h b j := fun j q => by rw [← hh, ld_st_ne (Or.inr q)]
  have kr : ∀ i j, krow h1 b i j = krow h b i j := fun i j => by unfold krow; rw [o 13 (by decide), o 14 (by decide), o 15 (by decide)]
  funext f j
  unfold tC
  split <;> first | rfl | (simp only [o 1 (by decide), o 2 (by decide), o 3 (by decide), o 4 (by decide), o 5 (by decide), o 6 (by decide), o 7 (by decide), o 8 (by decide), o 9 (by decide), o 10 (by decide), o 11 (by decide), o 13 (by decide), o 14 (by decide), o 15 (by decide), o 16 (by decide), o 18 (by decide), o 19 (by decide), o 20 (by decide), o 22 (by decide), o 23 (by decide), o 24 (by decide), o 26 (by decide), o 27 (by decide), o 28 (by decide), ob 0 (by decide), ob 4 (by decide), ob 11 (by decide), ob 15 (by decide), kr]; done)
def tKno (T : Wd) (k : Nat) (tok num : Int) : Wd := fun f i => if f = 19 + k then T (19 + k) 0 + 1 else if f = 22 + 2 * k ∧ i = T (19 + k) 0 then ksort tok else if f = 23 + 2 * k ∧ i = T (19 + k) 0 then kval tok num else T f i
theorem tC_k0 (w : WF h) (hb : b ∈ BKL) (hk : 0 ≤ ld h (b + 18) 3) (u v : Int) : tC (st (st (st h (b + 19) (ld h (b + 18) 3) u) (b + 20) (ld h (b + 18) 3) v) (b + 18) 3 (ld h (b + 18) 3 + 1)) b = tKno (tC h b) 0 u v := by
  generalize hh : st (st (st h (b + 19) (ld h (b + 18) 3) u) (b + 20) (ld h (b + 18) 3) v) (b + 18) 3 (ld h (b + 18) 3 + 1) = h1
  generalize hkk : ld h (b + 18) 3 = k at *
  have o : ∀ off : Int, off ≠ 18 → off ≠ 19 → off ≠ 20 → ∀ j, ld h1 (b + off) j = ld h (b + off) j := fun off q1 q2 q3 j => by rw [← hh, ld_st_ne (Or.inl (by omega)), ld_st_ne (Or.inl (by omega)), ld_st_ne (Or.inl (by omega))]
  have ob : ∀ j : Int, ld h1 b j = ld h b j := fun j => by rw [← hh, ld_st_ne (Or.inl (by omega)), ld_st_ne (Or.inl (by omega)), ld_st_ne (Or.inl (by omega))]
  have oc : ld h1 (b + 18) 3 = k + 1 := by rw [← hh, ld_st_eq]
  have oa1 : ∀ j, ld h1 (b + 19) j = if j = k then u else ld h (b + 19) j := fun j => by rw [← hh, ld_st_ne (Or.inl (by omega)), ld_st_ne (Or.inl (by omega)), ld_up]
  have oa2 : ∀ j, ld h1 (b + 20) j = if j = k then v else ld h (b + 20) j := fun j => by rw [← hh, ld_st_ne (Or.inl (by omega)), ld_up, ld_st_ne (Or.inl (by omega))]
  have kr : ∀ i j, krow h1 b i j = krow h b i j := fun i j => by unfold krow; rw [o 13 (by decide) (by decide) (by decide), o 14 (by decide) (by decide) (by decide), o 15 (by decide) (by decide) (by decide)]
  funext f i
  show _ = (if f = 19 then tC h b 19 0 + 1 else if f = 22 ∧ i = tC h b 19 0 then ksort u else if f = 23 ∧ i = tC h b 19 0 then kval u v else tC h b f i)
  rw [show tC h b 19 0 = k from hkk]
  by_cases g1 : f = 19
  · subst g1; rw [if_pos rfl]; exact oc
  rw [if_neg g1]
  by_cases g2 : f = 22
  · subst g2
    show rng i (ld h1 (b + 18) 3) (ksort (ld h1 (b + 19) i)) = _
    rw [oc, oa1, show ksort (if i = k then u else ld h (b + 19) i) = if i = k then ksort u else ksort (ld h (b + 19) i) by split <;> rfl, rng_up hk]
    by_cases q : i = k
    · rw [if_pos q, if_pos ⟨rfl, q⟩]
    · rw [if_neg q, if_neg (fun z => q z.2), if_neg (fun z => by cases z.1)]; show _ = rng i (ld h (b + 18) 3) _; rw [hkk]
  rw [if_neg (fun z => g2 z.1)]
  by_cases g3 : f = 23
  · subst g3
    show rng i (ld h1 (b + 18) 3) (kval (ld h1 (b + 19) i) (ld h1 (b + 20) i)) = _
    rw [oc, oa1, oa2, show kval (if i = k then u else ld h (b + 19) i) (if i = k then v else ld h (b + 20) i) = if i = k then kval u v else kval (ld h (b + 19) i) (ld h (b + 20) i) by split <;> rfl, rng_up hk]
    by_cases q : i = k
    · rw [if_pos q, if_pos ⟨rfl, q⟩]
    · rw [if_neg q, if_neg (fun z => q z.2)]; show _ = rng i (ld h (b + 18) 3) _; rw [hkk]
  rw [if_neg (fun z => g3 z.1)]
  unfold tC
  split <;> first | rfl | exact absurd rfl g1 | exact absurd rfl g2 | exact absurd rfl g3 | (simp only [o 1 (by decide) (by decide) (by decide), o 2 (by decide) (by decide) (by decide), o 3 (by decide) (by decide) (by decide), o 4 (by decide) (by decide) (by decide), o 5 (by decide) (by decide) (by decide), o 6 (by decide) (by decide) (by decide), o 7 (by decide) (by decide) (by decide), o 8 (by decide) (by decide) (by decide), o 9 (by decide) (by decide) (by decide), o 10 (by decide) (by decide) (by decide), o 11 (by decide) (by decide) (by decide), o 13 (by decide) (by decide) (by decide), o 14 (by decide) (by decide) (by decide), o 15 (by decide) (by decide) (by decide), o 16 (by decide) (by decide) (by decide), o 22 (by decide) (by decide) (by decide), o 23 (by decide) (by decide) (by decide), o 24 (by decide) (by decide) (by decide), o 26 (by decide) (by decide) (by decide), o 27 (by decide) (by decide) (by decide), o 28 (by decide) (by decide) (by decide), ob, kr]; done)
theorem kq_81_0 (w : WF h) (hb : b ∈ BKL) (hk : 0 ≤ ld h (b + 18) 3 ∧ ld h (b + 18) 3 < 64) {u : Int} (hu : -38 ≤ u ∧ u ≤ -1) (v : Int) (d : Nat) : ∃ h', C d 81 [(2, b + 18), (2, u), (0, v)] h = some ((9, 0), h') ∧ BkF b h h' ∧ tC h' b = tKno (tC h b) 0 u v ∧ ld h' b 8 = ld h b 8 ∧ ld h' b 17 = ld h b 17 ∧ (∀ k' : Int, 0 ≤ k' → k' < 3 → ld h' (b + 18 + 4 * k') 3 = (if k' = 0 then ld h (b + 18) 3 + 1 else ld h (b + 18 + 4 * k') 3) ∧ ∀ i, ld h' (b + 19 + 4 * k') i = (if k' = 0 ∧ i = ld h (b + 18) 3 then u else ld h (b + 19 + 4 * k') i) ∧ ld h' (b + 20 + 4 * k') i = (if k' = 0 ∧ i = ld h (b + 18) 3 then v else ld h (b + 20 + 4 * k') i)) := by
  have hq : b + 18 ∈ LWL := by
    have := of_decide_eq_true (List.all_eq_true.mp (List.all_eq_true.mp lwl_b b hb) 0 (by decide))
    rw [show b + 18 + 4 * 0 = b + 18 by omega] at this; exact this
  have e := tC_k0 w hb hk.1 u v
  have P0 := lfP0 w hq
  have f0 := BkF_rf (b := b) w
  have f1 := BkF_st f0 (a := b + 19) (j := ld h (b + 18) 3) (v := u) (by omega) (nfam_at bf_nA hb (by decide) _)
  have f2 := BkF_st f1 (a := b + 20) (j := ld h (b + 18) 3) (v := v) (by omega) (nfam_at bf_nA hb (by decide) _)
  have f3 := BkF_st f2 (a := b + 18) (j := 3) (v := ld h (b + 18) 3 + 1) (by omega) (npt_J (List.all_eq_true.mp lf_nJ (b + 18) hq))
  have r1 : ld (st h (b + 19) (ld h (b + 18) 3) u) (b + 18) 3 = ld h (b + 18) 3 := ld_st_ne (Or.inl (by omega))
  have r2 : ld (st (st h (b + 19) (ld h (b + 18) 3) u) (b + 20) (ld h (b + 18) 3) v) (b + 18) 3 = ld h (b + 18) 3 := (ld_st_ne (Or.inl (by omega))).trans r1
  have w1 := f1.1
  have w2 := f2.1
  refine ⟨_, ?_, f3, e, ?_, ?_, fun k' k0 k3 => ⟨?_, fun i => ⟨?_, ?_⟩⟩⟩
  · rw [ce_81, e81_0, if_pos (lfF0 w hq), if_pos hk.2, if_pos (lfF0 w hq), if_pos (lfF0 w hq), lfP0 w hq, if_pos (lfW1 w hq), lfL1 w hq, if_pos hk, if_pos (tk_F hu), show b + 18 + 1 = b + 19 by omega, e81_19, if_pos (lfF0 w1 hq), if_pos (lfF0 w1 hq), lfP1 w1 hq, if_pos (lfW2 w1 hq), lfL2 w1 hq, r1, if_pos hk, show b + 18 + 2 = b + 20 by omega, e81_29, if_pos (lfF0 w2 hq), if_pos (lfW0 w2 hq), r2, wk hk.1 hk.2 (by decide), e81_39]
  · rw [ld_st_ne (Or.inl (by omega)), ld_st_ne (Or.inl (by omega)), ld_st_ne (Or.inl (by omega))]
  · rw [ld_st_ne (Or.inl (by omega)), ld_st_ne (Or.inl (by omega)), ld_st_ne (Or.inl (by omega))]
  · by_cases qk : k' = 0
    · subst qk; rw [if_pos rfl, show b + 18 + 4 * (0 : Int) = b + 18 by omega, ld_st_eq]
    · rw [if_neg qk, ld_st_ne (Or.inl (by omega)), ld_st_ne (Or.inl (by omega)), ld_st_ne (Or.inl (by omega))]
  · by_cases qk : k' = 0
    · subst qk
      rw [show b + 19 + 4 * (0 : Int) = b + 19 by omega, ld_st_ne (Or.inl (by omega)), ld_st_ne (Or.inl (by omega)), ld_up]
      by_cases z : i = ld h (b + 18) 3
      · rw [if_pos z, if_pos ⟨rfl, z⟩]
      · rw [if_neg z, if_neg (fun y => z y.2)]
    · rw [if_neg (fun y => qk y.1), ld_st_ne (Or.inl (by omega)), ld_st_ne (Or.inl (by omega)), ld_st_ne (Or.inl (by omega))]
  · by_cases qk : k' = 0
    · subst qk
      rw [show b + 20 + 4 * (0 : Int) = b + 20 by omega, ld_st_ne (Or.inl (by omega)), ld_up]
      by_cases z : i = ld h (b + 18) 3
      · rw [if_pos z, if_pos ⟨rfl, z⟩]
      · rw [if_neg z, if_neg (fun y => z y.2), ld_st_ne (Or.inl (by omega))]
    · rw [if_neg (fun y => qk y.1), ld_st_ne (Or.inl (by omega)), ld_st_ne (Or.inl (by omega)), ld_st_ne (Or.inl (by omega))]
theorem tC_k1 (w : WF h) (hb : b ∈ BKL) (hk : 0 ≤ ld h (b + 22) 3) (u v : Int) : tC (st (st (st h (b + 23) (ld h (b + 22) 3) u) (b + 24) (ld h (b + 22) 3) v) (b + 22) 3 (ld h (b + 22) 3 + 1)) b = tKno (tC h b) 1 u v := by
  generalize hh : st (st (st h (b + 23) (ld h (b + 22) 3) u) (b + 24) (ld h (b + 22) 3) v) (b + 22) 3 (ld h (b + 22) 3 + 1) = h1
  generalize hkk : ld h (b + 22) 3 = k at *
  have o : ∀ off : Int, off ≠ 22 → off ≠ 23 → off ≠ 24 → ∀ j, ld h1 (b + off) j = ld h (b + off) j := fun off q1 q2 q3 j => by rw [← hh, ld_st_ne (Or.inl (by omega)), ld_st_ne (Or.inl (by omega)), ld_st_ne (Or.inl (by omega))]
  have ob : ∀ j : Int, ld h1 b j = ld h b j := fun j => by rw [← hh, ld_st_ne (Or.inl (by omega)), ld_st_ne (Or.inl (by omega)), ld_st_ne (Or.inl (by omega))]
  have oc : ld h1 (b + 22) 3 = k + 1 := by rw [← hh, ld_st_eq]
  have oa1 : ∀ j, ld h1 (b + 23) j = if j = k then u else ld h (b + 23) j := fun j => by rw [← hh, ld_st_ne (Or.inl (by omega)), ld_st_ne (Or.inl (by omega)), ld_up]
  have oa2 : ∀ j, ld h1 (b + 24) j = if j = k then v else ld h (b + 24) j := fun j => by rw [← hh, ld_st_ne (Or.inl (by omega)), ld_up, ld_st_ne (Or.inl (by omega))]
  have kr : ∀ i j, krow h1 b i j = krow h b i j := fun i j => by unfold krow; rw [o 13 (by decide) (by decide) (by decide), o 14 (by decide) (by decide) (by decide), o 15 (by decide) (by decide) (by decide)]
  funext f i
  show _ = (if f = 20 then tC h b 20 0 + 1 else if f = 24 ∧ i = tC h b 20 0 then ksort u else if f = 25 ∧ i = tC h b 20 0 then kval u v else tC h b f i)
  rw [show tC h b 20 0 = k from hkk]
  by_cases g1 : f = 20
  · subst g1; rw [if_pos rfl]; exact oc
  rw [if_neg g1]
  by_cases g2 : f = 24
  · subst g2
    show rng i (ld h1 (b + 22) 3) (ksort (ld h1 (b + 23) i)) = _
    rw [oc, oa1, show ksort (if i = k then u else ld h (b + 23) i) = if i = k then ksort u else ksort (ld h (b + 23) i) by split <;> rfl, rng_up hk]
    by_cases q : i = k
    · rw [if_pos q, if_pos ⟨rfl, q⟩]
    · rw [if_neg q, if_neg (fun z => q z.2), if_neg (fun z => by cases z.1)]; show _ = rng i (ld h (b + 22) 3) _; rw [hkk]
  rw [if_neg (fun z => g2 z.1)]
  by_cases g3 : f = 25
  · subst g3
    show rng i (ld h1 (b + 22) 3) (kval (ld h1 (b + 23) i) (ld h1 (b + 24) i)) = _
    rw [oc, oa1, oa2, show kval (if i = k then u else ld h (b + 23) i) (if i = k then v else ld h (b + 24) i) = if i = k then kval u v else kval (ld h (b + 23) i) (ld h (b + 24) i) by split <;> rfl, rng_up hk]
    by_cases q : i = k
    · rw [if_pos q, if_pos ⟨rfl, q⟩]
    · rw [if_neg q, if_neg (fun z => q z.2)]; show _ = rng i (ld h (b + 22) 3) _; rw [hkk]
  rw [if_neg (fun z => g3 z.1)]
  unfold tC
  split <;> first | rfl | exact absurd rfl g1 | exact absurd rfl g2 | exact absurd rfl g3 | (simp only [o 1 (by decide) (by decide) (by decide), o 2 (by decide) (by decide) (by decide), o 3 (by decide) (by decide) (by decide), o 4 (by decide) (by decide) (by decide), o 5 (by decide) (by decide) (by decide), o 6 (by decide) (by decide) (by decide), o 7 (by decide) (by decide) (by decide), o 8 (by decide) (by decide) (by decide), o 9 (by decide) (by decide) (by decide), o 10 (by decide) (by decide) (by decide), o 11 (by decide) (by decide) (by decide), o 13 (by decide) (by decide) (by decide), o 14 (by decide) (by decide) (by decide), o 15 (by decide) (by decide) (by decide), o 16 (by decide) (by decide) (by decide), o 18 (by decide) (by decide) (by decide), o 19 (by decide) (by decide) (by decide), o 20 (by decide) (by decide) (by decide), o 26 (by decide) (by decide) (by decide), o 27 (by decide) (by decide) (by decide), o 28 (by decide) (by decide) (by decide), ob, kr]; done)
theorem kq_81_1 (w : WF h) (hb : b ∈ BKL) (hk : 0 ≤ ld h (b + 22) 3 ∧ ld h (b + 22) 3 < 64) {u : Int} (hu : -38 ≤ u ∧ u ≤ -1) (v : Int) (d : Nat) : ∃ h', C d 81 [(2, b + 22), (2, u), (0, v)] h = some ((9, 0), h') ∧ BkF b h h' ∧ tC h' b = tKno (tC h b) 1 u v ∧ ld h' b 8 = ld h b 8 ∧ ld h' b 17 = ld h b 17 ∧ (∀ k' : Int, 0 ≤ k' → k' < 3 → ld h' (b + 18 + 4 * k') 3 = (if k' = 1 then ld h (b + 22) 3 + 1 else ld h (b + 18 + 4 * k') 3) ∧ ∀ i, ld h' (b + 19 + 4 * k') i = (if k' = 1 ∧ i = ld h (b + 22) 3 then u else ld h (b + 19 + 4 * k') i) ∧ ld h' (b + 20 + 4 * k') i = (if k' = 1 ∧ i = ld h (b + 22) 3 then v else ld h (b + 20 + 4 * k') i)) := by
  have hq : b + 22 ∈ LWL := by
    have := of_decide_eq_true (List.all_eq_true.mp (List.all_eq_true.mp lwl_b b hb) 1 (by decide))
    rw [show b + 18 + 4 * 1 = b + 22 by omega] at this; exact this
  have e := tC_k1 w hb hk.1 u v
  have P0 := lfP0 w hq
  have f0 := BkF_rf (b := b) w
  have f1 := BkF_st f0 (a := b + 23) (j := ld h (b + 22) 3) (v := u) (by omega) (nfam_at bf_nA hb (by decide) _)
  have f2 := BkF_st f1 (a := b + 24) (j := ld h (b + 22) 3) (v := v) (by omega) (nfam_at bf_nA hb (by decide) _)
  have f3 := BkF_st f2 (a := b + 22) (j := 3) (v := ld h (b + 22) 3 + 1) (by omega) (npt_J (List.all_eq_true.mp lf_nJ (b + 22) hq))
  have r1 : ld (st h (b + 23) (ld h (b + 22) 3) u) (b + 22) 3 = ld h (b + 22) 3 := ld_st_ne (Or.inl (by omega))
  have r2 : ld (st (st h (b + 23) (ld h (b + 22) 3) u) (b + 24) (ld h (b + 22) 3) v) (b + 22) 3 = ld h (b + 22) 3 := (ld_st_ne (Or.inl (by omega))).trans r1
  have w1 := f1.1
  have w2 := f2.1
  refine ⟨_, ?_, f3, e, ?_, ?_, fun k' k0 k3 => ⟨?_, fun i => ⟨?_, ?_⟩⟩⟩
  · rw [ce_81, e81_0, if_pos (lfF0 w hq), if_pos hk.2, if_pos (lfF0 w hq), if_pos (lfF0 w hq), lfP0 w hq, if_pos (lfW1 w hq), lfL1 w hq, if_pos hk, if_pos (tk_F hu), show b + 22 + 1 = b + 23 by omega, e81_19, if_pos (lfF0 w1 hq), if_pos (lfF0 w1 hq), lfP1 w1 hq, if_pos (lfW2 w1 hq), lfL2 w1 hq, r1, if_pos hk, show b + 22 + 2 = b + 24 by omega, e81_29, if_pos (lfF0 w2 hq), if_pos (lfW0 w2 hq), r2, wk hk.1 hk.2 (by decide), e81_39]
  · rw [ld_st_ne (Or.inl (by omega)), ld_st_ne (Or.inl (by omega)), ld_st_ne (Or.inl (by omega))]
  · rw [ld_st_ne (Or.inl (by omega)), ld_st_ne (Or.inl (by omega)), ld_st_ne (Or.inl (by omega))]
  · by_cases qk : k' = 1
    · subst qk; rw [if_pos rfl, show b + 18 + 4 * (1 : Int) = b + 22 by omega, ld_st_eq]
    · rw [if_neg qk, ld_st_ne (Or.inl (by omega)), ld_st_ne (Or.inl (by omega)), ld_st_ne (Or.inl (by omega))]
  · by_cases qk : k' = 1
    · subst qk
      rw [show b + 19 + 4 * (1 : Int) = b + 23 by omega, ld_st_ne (Or.inl (by omega)), ld_st_ne (Or.inl (by omega)), ld_up]
      by_cases z : i = ld h (b + 22) 3
      · rw [if_pos z, if_pos ⟨rfl, z⟩]
      · rw [if_neg z, if_neg (fun y => z y.2)]
    · rw [if_neg (fun y => qk y.1), ld_st_ne (Or.inl (by omega)), ld_st_ne (Or.inl (by omega)), ld_st_ne (Or.inl (by omega))]
  · by_cases qk : k' = 1
    · subst qk
      rw [show b + 20 + 4 * (1 : Int) = b + 24 by omega, ld_st_ne (Or.inl (by omega)), ld_up]
      by_cases z : i = ld h (b + 22) 3
      · rw [if_pos z, if_pos ⟨rfl, z⟩]
      · rw [if_neg z, if_neg (fun y => z y.2), ld_st_ne (Or.inl (by omega))]
    · rw [if_neg (fun y => qk y.1), ld_st_ne (Or.inl (by omega)), ld_st_ne (Or.inl (by omega)), ld_st_ne (Or.inl (by omega))]
theorem tC_k2 (w : WF h) (hb : b ∈ BKL) (hk : 0 ≤ ld h (b + 26) 3) (u v : Int) : tC (st (st (st h (b + 27) (ld h (b + 26) 3) u) (b + 28) (ld h (b + 26) 3) v) (b + 26) 3 (ld h (b + 26) 3 + 1)) b = tKno (tC h b) 2 u v := by
  generalize hh : st (st (st h (b + 27) (ld h (b + 26) 3) u) (b + 28) (ld h (b + 26) 3) v) (b + 26) 3 (ld h (b + 26) 3 + 1) = h1
  generalize hkk : ld h (b + 26) 3 = k at *
  have o : ∀ off : Int, off ≠ 26 → off ≠ 27 → off ≠ 28 → ∀ j, ld h1 (b + off) j = ld h (b + off) j := fun off q1 q2 q3 j => by rw [← hh, ld_st_ne (Or.inl (by omega)), ld_st_ne (Or.inl (by omega)), ld_st_ne (Or.inl (by omega))]
  have ob : ∀ j : Int, ld h1 b j = ld h b j := fun j => by rw [← hh, ld_st_ne (Or.inl (by omega)), ld_st_ne (Or.inl (by omega)), ld_st_ne (Or.inl (by omega))]
  have oc : ld h1 (b + 26) 3 = k + 1 := by rw [← hh, ld_st_eq]
  have oa1 : ∀ j, ld h1 (b + 27) j = if j = k then u else ld h (b + 27) j := fun j => by rw [← hh, ld_st_ne (Or.inl (by omega)), ld_st_ne (Or.inl (by omega)), ld_up]
  have oa2 : ∀ j, ld h1 (b + 28) j = if j = k then v else ld h (b + 28) j := fun j => by rw [← hh, ld_st_ne (Or.inl (by omega)), ld_up, ld_st_ne (Or.inl (by omega))]
  have kr : ∀ i j, krow h1 b i j = krow h b i j := fun i j => by unfold krow; rw [o 13 (by decide) (by decide) (by decide), o 14 (by decide) (by decide) (by decide), o 15 (by decide) (by decide) (by decide)]
  funext f i
  show _ = (if f = 21 then tC h b 21 0 + 1 else if f = 26 ∧ i = tC h b 21 0 then ksort u else if f = 27 ∧ i = tC h b 21 0 then kval u v else tC h b f i)
  rw [show tC h b 21 0 = k from hkk]
  by_cases g1 : f = 21
  · subst g1; rw [if_pos rfl]; exact oc
  rw [if_neg g1]
  by_cases g2 : f = 26
  · subst g2
    show rng i (ld h1 (b + 26) 3) (ksort (ld h1 (b + 27) i)) = _
    rw [oc, oa1, show ksort (if i = k then u else ld h (b + 27) i) = if i = k then ksort u else ksort (ld h (b + 27) i) by split <;> rfl, rng_up hk]
    by_cases q : i = k
    · rw [if_pos q, if_pos ⟨rfl, q⟩]
    · rw [if_neg q, if_neg (fun z => q z.2), if_neg (fun z => by cases z.1)]; show _ = rng i (ld h (b + 26) 3) _; rw [hkk]
  rw [if_neg (fun z => g2 z.1)]
  by_cases g3 : f = 27
  · subst g3
    show rng i (ld h1 (b + 26) 3) (kval (ld h1 (b + 27) i) (ld h1 (b + 28) i)) = _
    rw [oc, oa1, oa2, show kval (if i = k then u else ld h (b + 27) i) (if i = k then v else ld h (b + 28) i) = if i = k then kval u v else kval (ld h (b + 27) i) (ld h (b + 28) i) by split <;> rfl, rng_up hk]
    by_cases q : i = k
    · rw [if_pos q, if_pos ⟨rfl, q⟩]
    · rw [if_neg q, if_neg (fun z => q z.2)]; show _ = rng i (ld h (b + 26) 3) _; rw [hkk]
  rw [if_neg (fun z => g3 z.1)]
  unfold tC
  split <;> first | rfl | exact absurd rfl g1 | exact absurd rfl g2 | exact absurd rfl g3 | (simp only [o 1 (by decide) (by decide) (by decide), o 2 (by decide) (by decide) (by decide), o 3 (by decide) (by decide) (by decide), o 4 (by decide) (by decide) (by decide), o 5 (by decide) (by decide) (by decide), o 6 (by decide) (by decide) (by decide), o 7 (by decide) (by decide) (by decide), o 8 (by decide) (by decide) (by decide), o 9 (by decide) (by decide) (by decide), o 10 (by decide) (by decide) (by decide), o 11 (by decide) (by decide) (by decide), o 13 (by decide) (by decide) (by decide), o 14 (by decide) (by decide) (by decide), o 15 (by decide) (by decide) (by decide), o 16 (by decide) (by decide) (by decide), o 18 (by decide) (by decide) (by decide), o 19 (by decide) (by decide) (by decide), o 20 (by decide) (by decide) (by decide), o 22 (by decide) (by decide) (by decide), o 23 (by decide) (by decide) (by decide), o 24 (by decide) (by decide) (by decide), ob, kr]; done)
theorem kq_81_2 (w : WF h) (hb : b ∈ BKL) (hk : 0 ≤ ld h (b + 26) 3 ∧ ld h (b + 26) 3 < 64) {u : Int} (hu : -38 ≤ u ∧ u ≤ -1) (v : Int) (d : Nat) : ∃ h', C d 81 [(2, b + 26), (2, u), (0, v)] h = some ((9, 0), h') ∧ BkF b h h' ∧ tC h' b = tKno (tC h b) 2 u v ∧ ld h' b 8 = ld h b 8 ∧ ld h' b 17 = ld h b 17 ∧ (∀ k' : Int, 0 ≤ k' → k' < 3 → ld h' (b + 18 + 4 * k') 3 = (if k' = 2 then ld h (b + 26) 3 + 1 else ld h (b + 18 + 4 * k') 3) ∧ ∀ i, ld h' (b + 19 + 4 * k') i = (if k' = 2 ∧ i = ld h (b + 26) 3 then u else ld h (b + 19 + 4 * k') i) ∧ ld h' (b + 20 + 4 * k') i = (if k' = 2 ∧ i = ld h (b + 26) 3 then v else ld h (b + 20 + 4 * k') i)) := by
  have hq : b + 26 ∈ LWL := by
    have := of_decide_eq_true (List.all_eq_true.mp (List.all_eq_true.mp lwl_b b hb) 2 (by decide))
    rw [show b + 18 + 4 * 2 = b + 26 by omega] at this; exact this
  have e := tC_k2 w hb hk.1 u v
  have P0 := lfP0 w hq
  have f0 := BkF_rf (b := b) w
  have f1 := BkF_st f0 (a := b + 27) (j := ld h (b + 26) 3) (v := u) (by omega) (nfam_at bf_nA hb (by decide) _)
  have f2 := BkF_st f1 (a := b + 28) (j := ld h (b + 26) 3) (v := v) (by omega) (nfam_at bf_nA hb (by decide) _)
  have f3 := BkF_st f2 (a := b + 26) (j := 3) (v := ld h (b + 26) 3 + 1) (by omega) (npt_J (List.all_eq_true.mp lf_nJ (b + 26) hq))
  have r1 : ld (st h (b + 27) (ld h (b + 26) 3) u) (b + 26) 3 = ld h (b + 26) 3 := ld_st_ne (Or.inl (by omega))
  have r2 : ld (st (st h (b + 27) (ld h (b + 26) 3) u) (b + 28) (ld h (b + 26) 3) v) (b + 26) 3 = ld h (b + 26) 3 := (ld_st_ne (Or.inl (by omega))).trans r1
  have w1 := f1.1
  have w2 := f2.1
  refine ⟨_, ?_, f3, e, ?_, ?_, fun k' k0 k3 => ⟨?_, fun i => ⟨?_, ?_⟩⟩⟩
  · rw [ce_81, e81_0, if_pos (lfF0 w hq), if_pos hk.2, if_pos (lfF0 w hq), if_pos (lfF0 w hq), lfP0 w hq, if_pos (lfW1 w hq), lfL1 w hq, if_pos hk, if_pos (tk_F hu), show b + 26 + 1 = b + 27 by omega, e81_19, if_pos (lfF0 w1 hq), if_pos (lfF0 w1 hq), lfP1 w1 hq, if_pos (lfW2 w1 hq), lfL2 w1 hq, r1, if_pos hk, show b + 26 + 2 = b + 28 by omega, e81_29, if_pos (lfF0 w2 hq), if_pos (lfW0 w2 hq), r2, wk hk.1 hk.2 (by decide), e81_39]
  · rw [ld_st_ne (Or.inl (by omega)), ld_st_ne (Or.inl (by omega)), ld_st_ne (Or.inl (by omega))]
  · rw [ld_st_ne (Or.inl (by omega)), ld_st_ne (Or.inl (by omega)), ld_st_ne (Or.inl (by omega))]
  · by_cases qk : k' = 2
    · subst qk; rw [if_pos rfl, show b + 18 + 4 * (2 : Int) = b + 26 by omega, ld_st_eq]
    · rw [if_neg qk, ld_st_ne (Or.inl (by omega)), ld_st_ne (Or.inl (by omega)), ld_st_ne (Or.inl (by omega))]
  · by_cases qk : k' = 2
    · subst qk
      rw [show b + 19 + 4 * (2 : Int) = b + 27 by omega, ld_st_ne (Or.inl (by omega)), ld_st_ne (Or.inl (by omega)), ld_up]
      by_cases z : i = ld h (b + 26) 3
      · rw [if_pos z, if_pos ⟨rfl, z⟩]
      · rw [if_neg z, if_neg (fun y => z y.2)]
    · rw [if_neg (fun y => qk y.1), ld_st_ne (Or.inl (by omega)), ld_st_ne (Or.inl (by omega)), ld_st_ne (Or.inl (by omega))]
  · by_cases qk : k' = 2
    · subst qk
      rw [show b + 20 + 4 * (2 : Int) = b + 28 by omega, ld_st_ne (Or.inl (by omega)), ld_up]
      by_cases z : i = ld h (b + 26) 3
      · rw [if_pos z, if_pos ⟨rfl, z⟩]
      · rw [if_neg z, if_neg (fun y => z y.2), ld_st_ne (Or.inl (by omega))]
    · rw [if_neg (fun y => qk y.1), ld_st_ne (Or.inl (by omega)), ld_st_ne (Or.inl (by omega)), ld_st_ne (Or.inl (by omega))]
def tKin (T : Wd) (u v x : Int) : Wd := fun f i => if f = 3 then T 3 0 + 1 else if f = 15 ∧ i = T 3 0 then u else if f = 16 ∧ i = T 3 0 then v else if f = 17 ∧ i = T 3 0 then x else T f i
theorem tC_tKin (w : WF h) (hb : b ∈ BKL) (hk : 0 ≤ ld h b 15 ∧ ld h b 15 < 3) (u v x : Int) : tC (st (st (st (st h (b + 13 + ld h b 15) 0 u) (b + 13 + ld h b 15) 1 v) (b + 13 + ld h b 15) 2 x) b 15 (ld h b 15 + 1)) b = tKin (tC h b) u v x := by
  generalize hh : st (st (st (st h (b + 13 + ld h b 15) 0 u) (b + 13 + ld h b 15) 1 v) (b + 13 + ld h b 15) 2 x) b 15 (ld h b 15 + 1) = h1
  generalize hkk : ld h b 15 = k at *
  have o : ∀ off : Int, 1 ≤ off → off ≠ 13 + k → ∀ j, ld h1 (b + off) j = ld h (b + off) j := fun off q1 q2 j => by rw [← hh, ld_st_ne (Or.inl (by omega)), ld_st_ne (Or.inl (by omega)), ld_st_ne (Or.inl (by omega)), ld_st_ne (Or.inl (by omega))]
  have ob : ∀ j : Int, j ≠ 15 → ld h1 b j = ld h b j := fun j q => by rw [← hh, ld_st_ne (Or.inr q), ld_st_ne (Or.inl (by omega)), ld_st_ne (Or.inl (by omega)), ld_st_ne (Or.inl (by omega))]
  have oc : ld h1 b 15 = k + 1 := by rw [← hh, ld_st_eq]
  have oa : ∀ j, ld h1 (b + 13 + k) j = if j = 2 then x else if j = 1 then v else if j = 0 then u else ld h (b + 13 + k) j := fun j => by rw [← hh, ld_st_ne (Or.inl (by omega)), ld_up, ld_up, ld_up]
  have kr : ∀ i j, 0 ≤ i → i ≤ 2 → krow h1 b i j = if i = k then (if j = 2 then x else if j = 1 then v else if j = 0 then u else krow h b i j) else krow h b i j := fun i j i0 i2 => by
    have h3 : i = 0 ∨ i = 1 ∨ i = 2 := by omega
    by_cases q : i = k
    · subst q
      rw [if_pos rfl]
      have oj := oa j
      rcases h3 with rfl | rfl | rfl
      · rw [Int.add_zero] at oj; exact oj
      · rw [show b + 13 + 1 = b + 14 by omega] at oj; exact oj
      · rw [show b + 13 + 2 = b + 15 by omega] at oj; exact oj
    · rw [if_neg q]
      rcases h3 with rfl | rfl | rfl
      · exact o 13 (by decide) (by omega) j
      · exact o 14 (by decide) (by omega) j
      · exact o 15 (by decide) (by omega) j
  have rk : ∀ (i : Int) (m : Int) (y : Int), (m = 0 ∧ y = u ∨ m = 1 ∧ y = v ∨ m = 2 ∧ y = x) → rng i (k + 1) (krow h1 b i m) = if i = k then y else rng i k (krow h b i m) := fun i m y hm => by
    by_cases z : 0 ≤ i ∧ i < k + 1
    · rw [rng_in z, kr i m z.1 (by omega)]
      by_cases q : i = k
      · rw [if_pos q, if_pos q]
        rcases hm with ⟨rfl, rfl⟩ | ⟨rfl, rfl⟩ | ⟨rfl, rfl⟩ <;> simp
      · rw [if_neg q, if_neg q, rng_in (by omega)]
    · unfold rng; rw [if_neg z, if_neg (show ¬ i = k by omega), if_neg (by omega)]
  funext f i
  unfold tKin
  rw [show tC h b 3 0 = k from hkk]
  by_cases g3 : f = 3
  · subst g3; rw [if_pos rfl]; exact oc
  rw [if_neg g3]
  by_cases g15 : f = 15
  · subst g15
    show rng i (ld h1 b 15) (krow h1 b i 0) = _
    rw [oc, rk i 0 u (by omega)]
    by_cases q : i = k
    · rw [if_pos q, if_pos ⟨rfl, q⟩]
    · rw [if_neg q, if_neg (fun z => q z.2), if_neg (fun z => by cases z.1), if_neg (fun z => by cases z.1)]; show _ = rng i (ld h b 15) _; rw [hkk]
  rw [if_neg (fun z => g15 z.1)]
  by_cases g16 : f = 16
  · subst g16
    show rng i (ld h1 b 15) (krow h1 b i 1) = _
    rw [oc, rk i 1 v (by omega)]
    by_cases q : i = k
    · rw [if_pos q, if_pos ⟨rfl, q⟩]
    · rw [if_neg q, if_neg (fun z => q z.2), if_neg (fun z => by cases z.1)]; show _ = rng i (ld h b 15) _; rw [hkk]
  rw [if_neg (fun z => g16 z.1)]
  by_cases g17 : f = 17
  · subst g17
    show rng i (ld h1 b 15) (krow h1 b i 2) = _
    rw [oc, rk i 2 x (by omega)]
    by_cases q : i = k
    · rw [if_pos q, if_pos ⟨rfl, q⟩]
    · rw [if_neg q, if_neg (fun z => q z.2)]; show _ = rng i (ld h b 15) _; rw [hkk]
  rw [if_neg (fun z => g17 z.1)]
  unfold tC
  split <;> first | rfl | exact absurd rfl g3 | exact absurd rfl g15 | exact absurd rfl g16 | exact absurd rfl g17 | (simp only [o 1 (by decide) (by omega), o 2 (by decide) (by omega), o 3 (by decide) (by omega), o 4 (by decide) (by omega), o 5 (by decide) (by omega), o 6 (by decide) (by omega), o 7 (by decide) (by omega), o 8 (by decide) (by omega), o 9 (by decide) (by omega), o 10 (by decide) (by omega), o 11 (by decide) (by omega), o 16 (by decide) (by omega), o 18 (by decide) (by omega), o 19 (by decide) (by omega), o 20 (by decide) (by omega), o 22 (by decide) (by omega), o 23 (by decide) (by omega), o 24 (by decide) (by omega), o 26 (by decide) (by omega), o 27 (by decide) (by omega), o 28 (by decide) (by omega), ob 0 (by decide), ob 4 (by decide), ob 11 (by decide)]; done)
theorem kr_p (w : WF h) (hb : b ∈ BKL) {k : Int} (hk : 0 ≤ k ∧ k < 3) : ld h (b + 12) k = b + 13 + k ∧ okW h (b + 13 + k) 0 = true ∧ len h (b + 13 + k) = 3 ∧ ∀ j, npt (b + 13 + k) j := by
  have h3 : k = 0 ∨ k = 1 ∨ k = 2 := by omega
  rcases h3 with rfl | rfl | rfl
  · exact ⟨(bfP0_12 w hb).trans (by omega), by rw [Int.add_zero]; exact bfW13 w hb, by rw [Int.add_zero]; exact bfL13 w hb, fun j => by rw [Int.add_zero]; exact nfam_at bf_nA hb (by decide) j⟩
  · rw [show b + 13 + 1 = b + 14 by omega]; exact ⟨bfP1_12 w hb, bfW14 w hb, bfL14 w hb, fun j => nfam_at bf_nA hb (by decide) j⟩
  · rw [show b + 13 + 2 = b + 15 by omega]; exact ⟨bfP2_12 w hb, bfW15 w hb, bfL15 w hb, fun j => nfam_at bf_nA hb (by decide) j⟩
theorem kq_76 (w : WF h) (hb : b ∈ BKL) (hk : 0 ≤ ld h b 15 ∧ ld h b 15 < 3) (u v x : Int) (d : Nat) : ∃ h', C d 76 [(2, b), (0, u), (0, v), (0, x)] h = some ((9, 0), h') ∧ BkF b h h' ∧ tC h' b = tKin (tC h b) u v x ∧ ld h' b 8 = ld h b 8 ∧ ld h' b 17 = ld h b 17 ∧ BkL b h h' := by
  have e := tC_tKin w hb hk u v x
  obtain ⟨k1, k2, k3, k4⟩ := kr_p w hb hk
  have f0 := BkF_rf (b := b) w
  have f1 := BkF_st f0 (a := b + 13 + ld h b 15) (j := 0) (v := u) (by omega) (k4 0)
  have f2 := BkF_st f1 (a := b + 13 + ld h b 15) (j := 1) (v := v) (by omega) (k4 1)
  have f3 := BkF_st f2 (a := b + 13 + ld h b 15) (j := 2) (v := x) (by omega) (k4 2)
  have f4 := BkF_st f3 (a := b) (j := 15) (v := ld h b 15 + 1) (by omega) (bjn hb (by decide))
  have r1 : ld (st h (b + 13 + ld h b 15) 0 u) b 15 = ld h b 15 := ld_st_ne (Or.inl (by omega))
  have r2 : ld (st (st h (b + 13 + ld h b 15) 0 u) (b + 13 + ld h b 15) 1 v) b 15 = ld h b 15 := (ld_st_ne (Or.inl (by omega))).trans r1
  have r3 : ld (st (st (st h (b + 13 + ld h b 15) 0 u) (b + 13 + ld h b 15) 1 v) (b + 13 + ld h b 15) 2 x) b 15 = ld h b 15 := (ld_st_ne (Or.inl (by omega))).trans r2
  obtain ⟨p1, p2, p3, -⟩ := kr_p f1.1 hb hk
  obtain ⟨q1, q2, q3, -⟩ := kr_p f2.1 hb hk
  refine ⟨_, ?_, f4, e, ?_, ?_, fun off o1 o2 j => ?_⟩
  · rw [ce_76, e76_0, if_pos (bfF0 w hb), if_pos hk.2, if_pos (bfF0 w hb), if_pos (bfF0 w hb), bfP16 w hb, if_pos (bfF12 w hb), bfL12 w hb, if_pos hk, k1, if_pos k2, k3, if_pos (by decide), e76_20, if_pos (bfF0 f1.1 hb), if_pos (bfF0 f1.1 hb), bfP16 f1.1 hb, if_pos (bfF12 f1.1 hb), bfL12 f1.1 hb, r1, if_pos hk, p1, if_pos p2, p3, if_pos (by decide), e76_32, if_pos (bfF0 f2.1 hb), if_pos (bfF0 f2.1 hb), bfP16 f2.1 hb, if_pos (bfF12 f2.1 hb), bfL12 f2.1 hb, r2, if_pos hk, q1, if_pos q2, q3, if_pos (by decide), e76_44, if_pos (bfF0 f3.1 hb), if_pos (bfW0 f3.1 hb), r3, wk hk.1 hk.2 (by decide), e76_54]
  · rw [ld_st_ne (Or.inr (by decide)), ld_st_ne (Or.inl (by omega)), ld_st_ne (Or.inl (by omega)), ld_st_ne (Or.inl (by omega))]
  · rw [ld_st_ne (Or.inr (by decide)), ld_st_ne (Or.inl (by omega)), ld_st_ne (Or.inl (by omega)), ld_st_ne (Or.inl (by omega))]
  · rw [ld_st_ne (Or.inl (by omega)), ld_st_ne (Or.inl (by omega)), ld_st_ne (Or.inl (by omega)), ld_st_ne (Or.inl (by omega))]
theorem kq_65 (w : WF h) (hb : b ∈ BKL) (d : Nat) : ∃ h', C d 65 [(2, b)] h = some ((9, 0), h') ∧ BkF b h h' ∧ tC h' b = (fun _ _ => 0) ∧ ld h' b 8 = 0 ∧ ld h' b 17 = 0 ∧ ld h' (b + 18) 3 = 0 ∧ ld h' (b + 22) 3 = 0 ∧ ld h' (b + 26) 3 = 0 := by
  have dB : b ≤ b ∧ b < b + 30 := by omega
  have f1 : BkF b h (st (st h b 0 0) b 4 0) := BkF_st (BkF_st (BkF_rf w) dB (bjn hb (by decide))) dB (bjn hb (by decide))
  have f2 : BkF b h (st (st (st (st h b 0 0) b 4 0) b 8 0) b 11 0) := BkF_st (BkF_st f1 dB (bjn hb (by decide))) dB (bjn hb (by decide))
  have f3 : BkF b h (st (st (st (st (st (st h b 0 0) b 4 0) b 8 0) b 11 0) b 15 0) b 17 0) := BkF_st (BkF_st f2 dB (bjn hb (by decide))) dB (bjn hb (by decide))
  have z : ∀ j, j = 0 ∨ j = 4 ∨ j = 8 ∨ j = 11 ∨ j = 15 ∨ j = 17 → ld (st (st (st (st (st (st h b 0 0) b 4 0) b 8 0) b 11 0) b 15 0) b 17 0) b j = 0 := fun j hj => by
    rcases hj with rfl | rfl | rfl | rfl | rfl | rfl <;> simp [ld_st]
  rw [ce_65, e65_0, if_pos (bfW0 w hb), if_pos (by rw [okW_st]; exact bfW0 w hb), e65_10, if_pos (bfW0 f1.1 hb), if_pos (by rw [okW_st]; exact bfW0 f1.1 hb), e65_20, if_pos (bfW0 f2.1 hb), if_pos (by rw [okW_st]; exact bfW0 f2.1 hb), if_pos (by decide), e65_30]
  generalize st (st (st (st (st (st h b 0 0) b 4 0) b 8 0) b 11 0) b 15 0) b 17 0 = h3 at *
  have lws : ∀ k : Int, 0 ≤ k ∧ k < 3 → ∀ {h1 : Hp}, WF h1 → ld h1 (b + 17) k = b + 18 + 4 * k ∧ b + 18 + 4 * k ∈ LWL := fun k hk h1 w1 => by
    have h3 : k = 0 ∨ k = 1 ∨ k = 2 := by omega
    rcases h3 with rfl | rfl | rfl
    · exact ⟨(bfP0_17 w1 hb).trans (by omega), of_decide_eq_true (List.all_eq_true.mp (List.all_eq_true.mp lwl_b b hb) 0 (by decide))⟩
    · exact ⟨(bfP1_17 w1 hb).trans (by omega), of_decide_eq_true (List.all_eq_true.mp (List.all_eq_true.mp lwl_b b hb) 1 (by decide))⟩
    · exact ⟨(bfP2_17 w1 hb).trans (by omega), of_decide_eq_true (List.all_eq_true.mp (List.all_eq_true.mp lwl_b b hb) 2 (by decide))⟩
  -- the laws
  have p2 : ∀ (n : Nat) (k : Int) (h1 : Hp), BkF b h h1 → 0 ≤ k → k + n = 3 → (∀ j, ld h1 b j = ld h3 b j) → (∀ j, 0 ≤ j → j < 100 → ld h1 (b + 16) j = 0) → (∀ i, 0 ≤ i → i < k → ld h1 (b + 18 + 4 * i) 3 = 0) → ∃ h', V d 65 53 [(2, b), (0, k)] [] h1 = some ((9, 0), h') ∧ BkF b h h' ∧ (∀ j, ld h' b j = ld h3 b j) ∧ (∀ j, 0 ≤ j → j < 100 → ld h' (b + 16) j = 0) ∧ (∀ i, 0 ≤ i → i < 3 → ld h' (b + 18 + 4 * i) 3 = 0) := by
    intro n
    induction n with
    | zero => intro k h1 f hk hn g0 g1 g2; exact ⟨h1, by rw [e65_53, if_neg (by omega), e65_74], f, g0, g1, fun i i0 i1 => g2 i i0 (by omega)⟩
    | succ n ih =>
      intro k h1 f hk hn g0 g1 g2
      have w1 := f.1
      obtain ⟨l1, l2⟩ := lws k (by omega) w1
      have wk1 : True → w32 (k + 1) = k + 1 := fun _ => by unfold w32; omega
      rw [e65_53, if_pos (by omega), if_pos (bfF0 w1 hb), bfP19 w1 hb, if_pos (bfF17 w1 hb), bfL17 w1 hb, if_pos ⟨hk, by omega⟩, l1, if_pos (lfW0 w1 l2), e65_68, wk1 trivial]
      refine ih (k + 1) _ (BkF_st f (by omega) (npt_J (List.all_eq_true.mp lf_nJ _ l2))) (by omega) (by omega) (fun j => (ld_st_ne (Or.inl (by omega))).trans (g0 j)) (fun j j0 j1 => (ld_st_ne (Or.inl (by omega))).trans (g1 j j0 j1)) (fun i i0 i1 => ?_)
      by_cases q : i = k
      · subst q; exact ld_st_eq _ _ _ _
      · rw [ld_st_ne (Or.inl (by omega))]; exact g2 i i0 (by omega)
  have p1 : ∀ (n : Nat) (k : Int) (h1 : Hp), BkF b h h1 → 0 ≤ k → k + n = 100 → (∀ j, ld h1 b j = ld h3 b j) → (∀ j, 0 ≤ j → j < k → ld h1 (b + 16) j = 0) → ∃ h', V d 65 32 [(2, b), (0, k)] [] h1 = some ((9, 0), h') ∧ BkF b h h' ∧ (∀ j, ld h' b j = ld h3 b j) ∧ (∀ j, 0 ≤ j → j < 100 → ld h' (b + 16) j = 0) ∧ (∀ i, 0 ≤ i → i < 3 → ld h' (b + 18 + 4 * i) 3 = 0) := by
    intro n
    induction n with
    | zero =>
      intro k h1 f hk hn g0 g1
      rw [e65_32, if_neg (by omega), e65_51]
      exact p2 3 0 h1 f (by decide) (by decide) g0 (fun j j0 j1 => g1 j j0 (by omega)) (fun i i0 i1 => by omega)
    | succ n ih =>
      intro k h1 f hk hn g0 g1
      have w1 := f.1
      rw [e65_32, if_pos (by omega), if_pos (bfF0 w1 hb), bfP18 w1 hb, if_pos (bfW16 w1 hb), bfL16 w1 hb, if_pos ⟨hk, by omega⟩, if_pos (by decide), e65_45, wk hk (show k < 100 by omega) (by decide)]
      refine ih (k + 1) _ (BkF_st f (by omega) (nfam_at bf_nA hb (by decide) _)) (by omega) (by omega) (fun j => (ld_st_ne (Or.inl (by omega))).trans (g0 j)) (fun j j0 j1 => ?_)
      by_cases q : j = k
      · subst q; exact ld_st_eq _ _ _ _
      · rw [ld_st_ne (Or.inr q)]; exact g1 j j0 (by omega)
  obtain ⟨h', a, f, g0, g1, g2⟩ := p1 100 0 h3 f3 (by decide) (by decide) (fun _ => rfl) (fun j j0 j1 => by omega)
  have zz : ∀ j, j = 0 ∨ j = 4 ∨ j = 8 ∨ j = 11 ∨ j = 15 ∨ j = 17 → ld h' b j = 0 := fun j hj => (g0 j).trans (z j hj)
  have l0 : ld h' (b + 18) 3 = 0 := by have := g2 0 (by decide) (by decide); rw [show b + 18 + 4 * 0 = b + 18 by omega] at this; exact this
  have l1 : ld h' (b + 22) 3 = 0 := by have := g2 1 (by decide) (by decide); rw [show b + 18 + 4 * 1 = b + 22 by omega] at this; exact this
  have l2 : ld h' (b + 26) 3 = 0 := by have := g2 2 (by decide) (by decide); rw [show b + 18 + 4 * 2 = b + 26 by omega] at this; exact this
  refine ⟨h', a, f, ?_, zz 8 (by decide), zz 17 (by decide), l0, l1, l2⟩
  have r0 : ∀ i v : Int, rng i 0 v = 0 := fun i v => if_neg (by omega)
  funext f i
  unfold tC
  split <;> first | rfl | exact zz _ (by decide) | exact l0 | exact l1 | exact l2 | (simp only [zz 0 (by decide), zz 4 (by decide), zz 11 (by decide), zz 15 (by decide), l0, l1, l2, r0]; done) | (unfold rng; split <;> first | rfl | (rename_i q; exact g1 i q.1 q.2))
end BN
