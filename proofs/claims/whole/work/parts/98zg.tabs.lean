/-! layer 2: the plain program's tables grow -/
section TA
variable {g g1 : Hp}
theorem hail_eq (e1 : ∀ j, ld g1 313 5 = ld g 313 5 ∧ ld g1 328 j = ld g 328 j) : hailAt g1 = hailAt g := funext fun i => by
  unfold hailAt
  rw [(e1 0).1]
  congr 1
  funext k
  rw [(e1 (k : Int)).2]
theorem tR_tFea {u v x : Int} (k0 : 0 ≤ ld g 313 0) (e0 : ld g1 313 0 = ld g 313 0 + 1) (e1 : ∀ j, j ≠ 0 → ld g1 313 j = ld g 313 j) (e4 : ∀ j, ld g1 314 j = if j = ld g 313 0 then u else ld g 314 j) (e5 : ∀ j, ld g1 315 j = if j = ld g 313 0 then v else ld g 315 j) (e6 : ∀ j, ld g1 316 j = if j = ld g 313 0 then x else ld g 316 j) (o : ∀ a j : Int, 317 ≤ a → a ≤ 332 → ld g1 a j = ld g a j) : tR g1 = tFea (tR g) u v x := by
  have hh : hailAt g1 = hailAt g := hail_eq (fun j => ⟨e1 5 (by decide), o 328 j (by decide) (by decide)⟩)
  funext f i
  unfold tFea
  rw [show tR g 0 0 = ld g 313 0 from rfl]
  by_cases g0 : f = 0
  · subst g0; rw [if_pos rfl]; exact e0
  rw [if_neg g0]
  by_cases g4 : f = 4
  · subst g4
    show rng i (ld g1 313 0) (ld g1 314 i) = _
    rw [e0, e4, rng_up k0]
    by_cases q : i = ld g 313 0
    · rw [if_pos q, if_pos ⟨rfl, q⟩]
    · rw [if_neg q, if_neg (fun z => q z.2), if_neg (fun z => by cases z.1), if_neg (fun z => by cases z.1)]; rfl
  rw [if_neg (fun z => g4 z.1)]
  by_cases g5 : f = 5
  · subst g5
    show rng i (ld g1 313 0) (ld g1 315 i) = _
    rw [e0, e5, rng_up k0]
    by_cases q : i = ld g 313 0
    · rw [if_pos q, if_pos ⟨rfl, q⟩]
    · rw [if_neg q, if_neg (fun z => q z.2), if_neg (fun z => by cases z.1)]; rfl
  rw [if_neg (fun z => g5 z.1)]
  by_cases g6 : f = 6
  · subst g6
    show rng i (ld g1 313 0) (ld g1 316 i) = _
    rw [e0, e6, rng_up k0]
    by_cases q : i = ld g 313 0
    · rw [if_pos q, if_pos ⟨rfl, q⟩]
    · rw [if_neg q, if_neg (fun z => q z.2)]; rfl
  rw [if_neg (fun z => g6 z.1)]
  unfold tR
  split <;> first | rfl | exact absurd rfl g0 | exact absurd rfl g4 | exact absurd rfl g5 | exact absurd rfl g6 | (simp only [hh, e1 1 (by decide), e1 2 (by decide), e1 3 (by decide), o 317 _ (by decide) (by decide), o 318 _ (by decide) (by decide), o 319 _ (by decide) (by decide), o 320 _ (by decide) (by decide), o 321 _ (by decide) (by decide), o 322 _ (by decide) (by decide), o 323 _ (by decide) (by decide), o 324 _ (by decide) (by decide), o 325 _ (by decide) (by decide), o 326 _ (by decide) (by decide), o 327 _ (by decide) (by decide), o 329 _ (by decide) (by decide), o 330 _ (by decide) (by decide), o 331 _ (by decide) (by decide), o 332 _ (by decide) (by decide)])
end TA
