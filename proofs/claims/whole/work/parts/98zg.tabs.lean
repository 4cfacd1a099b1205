/-! layer 2: the plain program's tables grow -/
section TA
variable {g g1 : Hp}
theorem hail_eq (e1 : ∀ j, ld g1 313 5 = ld g 313 5 ∧ ld g1 328 j = ld g 328 j) : hailAt g1 = hailAt g := funext fun i => by
  unfold hailAt
  rw [(e1 0).1]
  congr 1
  funext k
  rw [(e1 (k : Int)).2]
theorem tR_tFea {u v x : Int} (k0 : 0 ≤ ld g 313 0) (e0 : ld g1 313 0 = ld g 313 0 + 1) (e1 : ∀ j, j ≠ 0 → ld g1 313 j = ld g 313 j) (e4 : ∀ j, ld g1 314 j = if j = ld g 313 0 then u else ld g 314 j) (e5 : ∀ j, ld g1 315 j = if j = ld g 313 0 then v else ld g 315 j) (e6 : ∀ j, ld g1 316 j = if j = ld g 313 0 then x else ld g 316 j) (o : ∀ a j : Int, 317 ≤ a → a ≤ 332 → ld g1 a j = ld g a j) : tR g1 = tFea (tR g) u v x := by
  have hh : hailAt g1 = hailAt g := hail_eq (fun j => ⟨e1 5 (by decide), o 328 j (by decide) (by decide)⟩)
  funext f i
  unfold tFea
  rw [show tR g 0 0 = ld g 313 0 from rfl]
  by_cases g0 : f = 0
  · subst g0; rw [if_pos rfl]; exact e0
  rw [if_neg g0]
  by_cases g4 : f = 4
  · subst g4
    show rng i (ld g1 313 0) (ld g1 314 i) = _
    rw [e0, e4, rng_up k0]
    by_cases q : i = ld g 313 0
    · rw [if_pos q, if_pos ⟨rfl, q⟩]
    · rw [if_neg q, if_neg (fun z => q z.2), if_neg (fun z => by cases z.1), if_neg (fun z => by cases z.1)]; rfl
  rw [if_neg (fun z => g4 z.1)]
  by_cases g5 : f = 5
  · subst g5
    show rng i (ld g1 313 0) (ld g1 315 i) = _
    rw [e0, e5, rng_up k0]
    by_cases q : i = ld g 313 0
    · rw [if_pos q, if_pos ⟨rfl, q⟩]
    · rw [if_neg q, if_neg (fun z => q z.2), if_neg (fun z => by cases z.1)]; rfl
  rw [if_neg (fun z => g5 z.1)]
  by_cases g6 : f = 6
  · subst g6
    show rng i (ld g1 313 0) (ld g1 316 i) = _
    rw [e0, e6, rng_up k0]
    by_cases q : i = ld g 313 0
    · rw [if_pos q, if_pos ⟨rfl, q⟩]
    · rw [if_neg q, if_neg (fun z => q z.2)]; rfl
  rw [if_neg (fun z => g6 z.1)]
  unfold tR
  split <;> first | rfl | exact absurd rfl g0 | exact absurd rfl g4 | exact absurd rfl g5 | exact absurd rfl g6 | (simp only [hh, e1 1 (by decide), e1 2 (by decide), e1 3 (by decide), o 317 _ (by decide) (by decide), o 318 _ (by decide) (by decide), o 319 _ (by decide) (by decide), o 320 _ (by decide) (by decide), o 321 _ (by decide) (by decide), o 322 _ (by decide) (by decide), o 323 _ (by decide) (by decide), o 324 _ (by decide) (by decide), o 325 _ (by decide) (by decide), o 326 _ (by decide) (by decide), o 327 _ (by decide) (by decide), o 329 _ (by decide) (by decide), o 330 _ (by decide) (by decide), o 331 _ (by decide) (by decide), o 332 _ (by decide) (by decide)])
theorem tR_tSit {u v x : Int} (k0 : 0 ≤ ld g 313 1) (e0 : ld g1 313 1 = ld g 313 1 + 1) (e1 : ∀ j, j ≠ 1 → ld g1 313 j = ld g 313 j) (e7 : ∀ j, ld g1 317 j = if j = ld g 313 1 then u else ld g 317 j) (e8 : ∀ j, ld g1 318 j = if j = ld g 313 1 then v else ld g 318 j) (e9 : ∀ j, ld g1 319 j = if j = ld g 313 1 then x else ld g 319 j) (e10 : ∀ j, ld g1 320 j = if j = ld g 313 1 then (-1) else ld g 320 j) (e11 : ∀ j, ld g1 321 j = if j = ld g 313 1 then (-1) else ld g 321 j) (o : ∀ a j : Int, 314 ≤ a → a ≤ 332 → ¬ (317 ≤ a ∧ a ≤ 321) → ld g1 a j = ld g a j) : tR g1 = tSit (tR g) u v x := by
  have hh : hailAt g1 = hailAt g := hail_eq (fun j => ⟨e1 5 (by decide), o 328 j (by decide) (by decide) (by decide)⟩)
  funext f i
  unfold tSit
  rw [show tR g 1 0 = ld g 313 1 from rfl]
  by_cases g0 : f = 1
  · subst g0; rw [if_pos rfl]; exact e0
  rw [if_neg g0]
  by_cases g7 : f = 7
  · subst g7
    show rng i (ld g1 313 1) (ld g1 317 i) = _
    rw [e0, e7, rng_up k0]
    by_cases q : i = ld g 313 1
    · rw [if_pos q, if_pos ⟨rfl, q⟩]
    · rw [if_neg q, if_neg (fun z => q z.2), if_neg (fun z => by cases z.1), if_neg (fun z => by cases z.1), if_neg (fun z => by cases z.1), if_neg (fun z => by cases z.1)]; rfl
  rw [if_neg (fun z => g7 z.1)]
  by_cases g8 : f = 8
  · subst g8
    show rng i (ld g1 313 1) (ld g1 318 i) = _
    rw [e0, e8, rng_up k0]
    by_cases q : i = ld g 313 1
    · rw [if_pos q, if_pos ⟨rfl, q⟩]
    · rw [if_neg q, if_neg (fun z => q z.2), if_neg (fun z => by cases z.1), if_neg (fun z => by cases z.1), if_neg (fun z => by cases z.1)]; rfl
  rw [if_neg (fun z => g8 z.1)]
  by_cases g9 : f = 9
  · subst g9
    show rng i (ld g1 313 1) (ld g1 319 i) = _
    rw [e0, e9, rng_up k0]
    by_cases q : i = ld g 313 1
    · rw [if_pos q, if_pos ⟨rfl, q⟩]
    · rw [if_neg q, if_neg (fun z => q z.2), if_neg (fun z => by cases z.1), if_neg (fun z => by cases z.1)]; rfl
  rw [if_neg (fun z => g9 z.1)]
  by_cases g10 : f = 10
  · subst g10
    show rng i (ld g1 313 1) (ld g1 320 i) = _
    rw [e0, e10, rng_up k0]
    by_cases q : i = ld g 313 1
    · rw [if_pos q, if_pos ⟨rfl, q⟩]
    · rw [if_neg q, if_neg (fun z => q z.2), if_neg (fun z => by cases z.1)]; rfl
  rw [if_neg (fun z => g10 z.1)]
  by_cases g11 : f = 11
  · subst g11
    show rng i (ld g1 313 1) (ld g1 321 i) = _
    rw [e0, e11, rng_up k0]
    by_cases q : i = ld g 313 1
    · rw [if_pos q, if_pos ⟨rfl, q⟩]
    · rw [if_neg q, if_neg (fun z => q z.2)]; rfl
  rw [if_neg (fun z => g11 z.1)]
  unfold tR
  split <;> first | rfl | exact absurd rfl g0 | exact absurd rfl g7 | exact absurd rfl g8 | exact absurd rfl g9 | exact absurd rfl g10 | exact absurd rfl g11 | (simp only [hh, e1 0 (by decide), e1 2 (by decide), e1 3 (by decide), o 314 _ (by decide) (by decide) (by decide), o 315 _ (by decide) (by decide) (by decide), o 316 _ (by decide) (by decide) (by decide), o 322 _ (by decide) (by decide) (by decide), o 323 _ (by decide) (by decide) (by decide), o 324 _ (by decide) (by decide) (by decide), o 325 _ (by decide) (by decide) (by decide), o 326 _ (by decide) (by decide) (by decide), o 327 _ (by decide) (by decide) (by decide), o 329 _ (by decide) (by decide) (by decide), o 330 _ (by decide) (by decide) (by decide), o 331 _ (by decide) (by decide) (by decide), o 332 _ (by decide) (by decide) (by decide)])
theorem tR_tPie {u v x : Int} (k0 : 0 ≤ ld g 313 2) (e0 : ld g1 313 2 = ld g 313 2 + 1) (e1 : ∀ j, j ≠ 2 → ld g1 313 j = ld g 313 j) (e12 : ∀ j, ld g1 322 j = if j = ld g 313 2 then u else ld g 322 j) (e13 : ∀ j, ld g1 323 j = if j = ld g 313 2 then v else ld g 323 j) (e14 : ∀ j, ld g1 324 j = if j = ld g 313 2 then x else ld g 324 j) (o : ∀ a j : Int, 314 ≤ a → a ≤ 332 → ¬ (322 ≤ a ∧ a ≤ 324) → ld g1 a j = ld g a j) : tR g1 = tPie (tR g) u v x := by
  have hh : hailAt g1 = hailAt g := hail_eq (fun j => ⟨e1 5 (by decide), o 328 j (by decide) (by decide) (by decide)⟩)
  funext f i
  unfold tPie
  rw [show tR g 2 0 = ld g 313 2 from rfl]
  by_cases g0 : f = 2
  · subst g0; rw [if_pos rfl]; exact e0
  rw [if_neg g0]
  by_cases g12 : f = 12
  · subst g12
    show rng i (ld g1 313 2) (ld g1 322 i) = _
    rw [e0, e12, rng_up k0]
    by_cases q : i = ld g 313 2
    · rw [if_pos q, if_pos ⟨rfl, q⟩]
    · rw [if_neg q, if_neg (fun z => q z.2), if_neg (fun z => by cases z.1), if_neg (fun z => by cases z.1)]; rfl
  rw [if_neg (fun z => g12 z.1)]
  by_cases g13 : f = 13
  · subst g13
    show rng i (ld g1 313 2) (ld g1 323 i) = _
    rw [e0, e13, rng_up k0]
    by_cases q : i = ld g 313 2
    · rw [if_pos q, if_pos ⟨rfl, q⟩]
    · rw [if_neg q, if_neg (fun z => q z.2), if_neg (fun z => by cases z.1)]; rfl
  rw [if_neg (fun z => g13 z.1)]
  by_cases g14 : f = 14
  · subst g14
    show rng i (ld g1 313 2) (ld g1 324 i) = _
    rw [e0, e14, rng_up k0]
    by_cases q : i = ld g 313 2
    · rw [if_pos q, if_pos ⟨rfl, q⟩]
    · rw [if_neg q, if_neg (fun z => q z.2)]; rfl
  rw [if_neg (fun z => g14 z.1)]
  unfold tR
  split <;> first | rfl | exact absurd rfl g0 | exact absurd rfl g12 | exact absurd rfl g13 | exact absurd rfl g14 | (simp only [hh, e1 0 (by decide), e1 1 (by decide), e1 3 (by decide), o 314 _ (by decide) (by decide) (by decide), o 315 _ (by decide) (by decide) (by decide), o 316 _ (by decide) (by decide) (by decide), o 317 _ (by decide) (by decide) (by decide), o 318 _ (by decide) (by decide) (by decide), o 319 _ (by decide) (by decide) (by decide), o 320 _ (by decide) (by decide) (by decide), o 321 _ (by decide) (by decide) (by decide), o 325 _ (by decide) (by decide) (by decide), o 326 _ (by decide) (by decide) (by decide), o 327 _ (by decide) (by decide) (by decide), o 329 _ (by decide) (by decide) (by decide), o 330 _ (by decide) (by decide) (by decide), o 331 _ (by decide) (by decide) (by decide), o 332 _ (by decide) (by decide) (by decide)])
theorem tR_tKin {u v x : Int} (k0 : 0 ≤ ld g 313 3) (e0 : ld g1 313 3 = ld g 313 3 + 1) (e1 : ∀ j, j ≠ 3 → ld g1 313 j = ld g 313 j) (e15 : ∀ j, ld g1 325 j = if j = ld g 313 3 then u else ld g 325 j) (e16 : ∀ j, ld g1 326 j = if j = ld g 313 3 then v else ld g 326 j) (e17 : ∀ j, ld g1 327 j = if j = ld g 313 3 then x else ld g 327 j) (o : ∀ a j : Int, 314 ≤ a → a ≤ 332 → ¬ (325 ≤ a ∧ a ≤ 327) → ld g1 a j = ld g a j) : tR g1 = tKin (tR g) u v x := by
  have hh : hailAt g1 = hailAt g := hail_eq (fun j => ⟨e1 5 (by decide), o 328 j (by decide) (by decide) (by decide)⟩)
  funext f i
  unfold tKin
  rw [show tR g 3 0 = ld g 313 3 from rfl]
  by_cases g0 : f = 3
  · subst g0; rw [if_pos rfl]; exact e0
  rw [if_neg g0]
  by_cases g15 : f = 15
  · subst g15
    show rng i (ld g1 313 3) (ld g1 325 i) = _
    rw [e0, e15, rng_up k0]
    by_cases q : i = ld g 313 3
    · rw [if_pos q, if_pos ⟨rfl, q⟩]
    · rw [if_neg q, if_neg (fun z => q z.2), if_neg (fun z => by cases z.1), if_neg (fun z => by cases z.1)]; rfl
  rw [if_neg (fun z => g15 z.1)]
  by_cases g16 : f = 16
  · subst g16
    show rng i (ld g1 313 3) (ld g1 326 i) = _
    rw [e0, e16, rng_up k0]
    by_cases q : i = ld g 313 3
    · rw [if_pos q, if_pos ⟨rfl, q⟩]
    · rw [if_neg q, if_neg (fun z => q z.2), if_neg (fun z => by cases z.1)]; rfl
  rw [if_neg (fun z => g16 z.1)]
  by_cases g17 : f = 17
  · subst g17
    show rng i (ld g1 313 3) (ld g1 327 i) = _
    rw [e0, e17, rng_up k0]
    by_cases q : i = ld g 313 3
    · rw [if_pos q, if_pos ⟨rfl, q⟩]
    · rw [if_neg q, if_neg (fun z => q z.2)]; rfl
  rw [if_neg (fun z => g17 z.1)]
  unfold tR
  split <;> first | rfl | exact absurd rfl g0 | exact absurd rfl g15 | exact absurd rfl g16 | exact absurd rfl g17 | (simp only [hh, e1 0 (by decide), e1 1 (by decide), e1 2 (by decide), o 314 _ (by decide) (by decide) (by decide), o 315 _ (by decide) (by decide) (by decide), o 316 _ (by decide) (by decide) (by decide), o 317 _ (by decide) (by decide) (by decide), o 318 _ (by decide) (by decide) (by decide), o 319 _ (by decide) (by decide) (by decide), o 320 _ (by decide) (by decide) (by decide), o 321 _ (by decide) (by decide) (by decide), o 322 _ (by decide) (by decide) (by decide), o 323 _ (by decide) (by decide) (by decide), o 324 _ (by decide) (by decide) (by decide), o 329 _ (by decide) (by decide) (by decide), o 330 _ (by decide) (by decide) (by decide), o 331 _ (by decide) (by decide) (by decide), o 332 _ (by decide) (by decide) (by decide)])
end TA
