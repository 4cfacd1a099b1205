/-! layer 2: one cell of the plain program's tables -/
section TU
variable {g g1 : Hp}
theorem tR_u11 {s t : Int} (hs : 0 ≤ s ∧ s < ld g 313 1) (e0 : ∀ j, j ≠ 4 → ld g1 313 j = ld g 313 j) (e : ∀ j, ld g1 321 j = if j = s then t else ld g 321 j) (o : ∀ a j : Int, 314 ≤ a → a ≤ 332 → ¬ a = 321 → ld g1 a j = ld g a j) : tR g1 = up2 (tR g) 11 s t := by
  have hh : hailAt g1 = hailAt g := hail_eq (fun j => ⟨e0 5 (by decide), o 328 j (by decide) (by decide) (by decide)⟩)
  funext f i
  unfold up2
  by_cases g0 : f = 11
  · subst g0
    show rng i (ld g1 313 1) (ld g1 321 i) = _
    rw [e0 1 (by decide), e]
    by_cases q : i = s
    · rw [if_pos q, if_pos ⟨rfl, q⟩]; exact rng_in (by omega)
    · rw [if_neg q, if_neg (fun z => q z.2)]; rfl
  rw [if_neg (fun z => g0 z.1)]
  unfold tR
  split <;> first | rfl | exact absurd rfl g0 | (simp only [hh, e0 0 (by decide), e0 1 (by decide), e0 2 (by decide), e0 3 (by decide), o 314 _ (by decide) (by decide) (by decide), o 315 _ (by decide) (by decide) (by decide), o 316 _ (by decide) (by decide) (by decide), o 317 _ (by decide) (by decide) (by decide), o 318 _ (by decide) (by decide) (by decide), o 319 _ (by decide) (by decide) (by decide), o 320 _ (by decide) (by decide) (by decide), o 322 _ (by decide) (by decide) (by decide), o 323 _ (by decide) (by decide) (by decide), o 324 _ (by decide) (by decide) (by decide), o 325 _ (by decide) (by decide) (by decide), o 326 _ (by decide) (by decide) (by decide), o 327 _ (by decide) (by decide) (by decide), o 329 _ (by decide) (by decide) (by decide), o 330 _ (by decide) (by decide) (by decide), o 331 _ (by decide) (by decide) (by decide), o 332 _ (by decide) (by decide) (by decide)])
theorem tR_u10 {s t : Int} (hs : 0 ≤ s ∧ s < ld g 313 1) (e0 : ∀ j, j ≠ 4 → ld g1 313 j = ld g 313 j) (e : ∀ j, ld g1 320 j = if j = s then t else ld g 320 j) (o : ∀ a j : Int, 314 ≤ a → a ≤ 332 → ¬ a = 320 → ld g1 a j = ld g a j) : tR g1 = up2 (tR g) 10 s t := by
  have hh : hailAt g1 = hailAt g := hail_eq (fun j => ⟨e0 5 (by decide), o 328 j (by decide) (by decide) (by decide)⟩)
  funext f i
  unfold up2
  by_cases g0 : f = 10
  · subst g0
    show rng i (ld g1 313 1) (ld g1 320 i) = _
    rw [e0 1 (by decide), e]
    by_cases q : i = s
    · rw [if_pos q, if_pos ⟨rfl, q⟩]; exact rng_in (by omega)
    · rw [if_neg q, if_neg (fun z => q z.2)]; rfl
  rw [if_neg (fun z => g0 z.1)]
  unfold tR
  split <;> first | rfl | exact absurd rfl g0 | (simp only [hh, e0 0 (by decide), e0 1 (by decide), e0 2 (by decide), e0 3 (by decide), o 314 _ (by decide) (by decide) (by decide), o 315 _ (by decide) (by decide) (by decide), o 316 _ (by decide) (by decide) (by decide), o 317 _ (by decide) (by decide) (by decide), o 318 _ (by decide) (by decide) (by decide), o 319 _ (by decide) (by decide) (by decide), o 321 _ (by decide) (by decide) (by decide), o 322 _ (by decide) (by decide) (by decide), o 323 _ (by decide) (by decide) (by decide), o 324 _ (by decide) (by decide) (by decide), o 325 _ (by decide) (by decide) (by decide), o 326 _ (by decide) (by decide) (by decide), o 327 _ (by decide) (by decide) (by decide), o 329 _ (by decide) (by decide) (by decide), o 330 _ (by decide) (by decide) (by decide), o 331 _ (by decide) (by decide) (by decide), o 332 _ (by decide) (by decide) (by decide)])
end TU
