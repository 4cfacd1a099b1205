/-! layer 2: the plain program takes a text over -/
section TT
variable {h h' h0 : Hp} {tp : Int → Int} {n : Int} {T : Wd}
theorem hv_x (w : WF h) {x : Int} (hx : 313 ≤ x ∧ x ≤ 332) : okF h x 0 = true ∧ okW h x 0 = true ∧ len h x = 2 * hfA x ∧ (3 ≤ hfA x ∧ hfA x ≤ 64) := by
  have : x = 313 ∨ x = 314 ∨ x = 315 ∨ x = 316 ∨ x = 317 ∨ x = 318 ∨ x = 319 ∨ x = 320 ∨ x = 321 ∨ x = 322 ∨ x = 323 ∨ x = 324 ∨ x = 325 ∨ x = 326 ∨ x = 327 ∨ x = 328 ∨ x = 329 ∨ x = 330 ∨ x = 331 ∨ x = 332 := by omega
  rcases this with rfl | rfl | rfl | rfl | rfl | rfl | rfl | rfl | rfl | rfl | rfl | rfl | rfl | rfl | rfl | rfl | rfl | rfl | rfl | rfl
  · exact ⟨F_a313 w, W_a313 w, (L_a313 w).trans (by decide), by decide⟩
  · exact ⟨F_a314 w, W_a314 w, (L_a314 w).trans (by decide), by decide⟩
  · exact ⟨F_a315 w, W_a315 w, (L_a315 w).trans (by decide), by decide⟩
  · exact ⟨F_a316 w, W_a316 w, (L_a316 w).trans (by decide), by decide⟩
  · exact ⟨F_a317 w, W_a317 w, (L_a317 w).trans (by decide), by decide⟩
  · exact ⟨F_a318 w, W_a318 w, (L_a318 w).trans (by decide), by decide⟩
  · exact ⟨F_a319 w, W_a319 w, (L_a319 w).trans (by decide), by decide⟩
  · exact ⟨F_a320 w, W_a320 w, (L_a320 w).trans (by decide), by decide⟩
  · exact ⟨F_a321 w, W_a321 w, (L_a321 w).trans (by decide), by decide⟩
  · exact ⟨F_a322 w, W_a322 w, (L_a322 w).trans (by decide), by decide⟩
  · exact ⟨F_a323 w, W_a323 w, (L_a323 w).trans (by decide), by decide⟩
  · exact ⟨F_a324 w, W_a324 w, (L_a324 w).trans (by decide), by decide⟩
  · exact ⟨F_a325 w, W_a325 w, (L_a325 w).trans (by decide), by decide⟩
  · exact ⟨F_a326 w, W_a326 w, (L_a326 w).trans (by decide), by decide⟩
  · exact ⟨F_a327 w, W_a327 w, (L_a327 w).trans (by decide), by decide⟩
  · exact ⟨F_a328 w, W_a328 w, (L_a328 w).trans (by decide), by decide⟩
  · exact ⟨F_a329 w, W_a329 w, (L_a329 w).trans (by decide), by decide⟩
  · exact ⟨F_a330 w, W_a330 w, (L_a330 w).trans (by decide), by decide⟩
  · exact ⟨F_a331 w, W_a331 w, (L_a331 w).trans (by decide), by decide⟩
  · exact ⟨F_a332 w, W_a332 w, (L_a332 w).trans (by decide), by decide⟩
theorem n3xx {x : Int} (hx : 313 ≤ x ∧ x ≤ 332) (j : Int) : npt x j := by
  have : x = 313 ∨ x = 314 ∨ x = 315 ∨ x = 316 ∨ x = 317 ∨ x = 318 ∨ x = 319 ∨ x = 320 ∨ x = 321 ∨ x = 322 ∨ x = 323 ∨ x = 324 ∨ x = 325 ∨ x = 326 ∨ x = 327 ∨ x = 328 ∨ x = 329 ∨ x = 330 ∨ x = 331 ∨ x = 332 := by omega
  rcases this with rfl | rfl | rfl | rfl | rfl | rfl | rfl | rfl | rfl | rfl | rfl | rfl | rfl | rfl | rfl | rfl | rfl | rfl | rfl | rfl <;> exact npt_A (by decide +kernel) j
/-- the first halves are what counts -/
theorem rng_hf {x N : Int} (e : ∀ j : Int, 0 ≤ j → j < hfA x → ld h' x j = ld h x j) (hN : N ≤ hfA x) (i : Int) : rng i N (ld h' x i) = rng i N (ld h x i) := by
  unfold rng
  split
  · exact e i (by omega) (by omega)
  · rfl
theorem RT_hf (r : RT h T) (w' : WF h') (e : ∀ x j : Int, 313 ≤ x → x ≤ 332 → 0 ≤ j → j < hfA x → ld h' x j = ld h x j) : RT h' T := by
  obtain ⟨-, r2, r3, r4, r5, r6⟩ := id r
  have k0 := rt0 r
  have k1 := rt1 r
  have k2 := rt2 r
  have k3 := rt3 r
  have t0 := r3.1
  have t1 := r3.2.1
  have t2 := r3.2.2.1
  have t3 := r3.2.2.2.1
  have c : ∀ j : Int, 0 ≤ j → j < 7 → ld h' 313 j = ld h 313 j := fun j a b => e 313 j (by decide) (by decide) a (by rw [show hfA 313 = 7 by decide]; exact b)
  have d9 : ∀ j : Int, 0 ≤ j → j < 3 → ld h' 329 j = ld h 329 j ∧ ld h' 330 j = ld h 330 j := fun j a b => ⟨e 329 j (by decide) (by decide) a (by rw [show hfA 329 = 3 by decide]; exact b), e 330 j (by decide) (by decide) a (by rw [show hfA 330 = 3 by decide]; exact b)⟩
  refine ⟨w', ?_, r3, r4, fun k a b => by rw [(d9 k a b).1, (d9 k a b).2]; exact r5 k a b, by rw [c 5 (by decide) (by decide)]; exact r6⟩
  have hh : hailAt h' = hailAt h := funext fun i => by
    unfold hailAt
    rw [c 5 (by decide) (by decide), Bool.eq_iff_iff, List.any_eq_true, List.any_eq_true]
    have g : ∀ x : Nat, x ∈ List.range (ld h 313 5).toNat → ld h' 328 (x : Int) = ld h 328 (x : Int) := fun x hx => e 328 _ (by decide) (by decide) (by omega) (by
      have := List.mem_range.mp hx
      rw [show hfA 328 = 12 by decide]; omega)
    refine ⟨fun ⟨x, hx, y⟩ => ⟨x, hx, ?_⟩, fun ⟨x, hx, y⟩ => ⟨x, hx, ?_⟩⟩
    · rw [g x hx] at y; exact y
    · rw [g x hx]; exact y
  have a314 := rng_hf (h := h) (h' := h') (x := 314) (N := ld h 313 0) (fun j a b => e 314 j (by decide) (by decide) a b) (by rw [show hfA 314 = 5 by decide]; omega)
  have a315 := rng_hf (h := h) (h' := h') (x := 315) (N := ld h 313 0) (fun j a b => e 315 j (by decide) (by decide) a b) (by rw [show hfA 315 = 5 by decide]; omega)
  have a316 := rng_hf (h := h) (h' := h') (x := 316) (N := ld h 313 0) (fun j a b => e 316 j (by decide) (by decide) a b) (by rw [show hfA 316 = 5 by decide]; omega)
  have a317 := rng_hf (h := h) (h' := h') (x := 317) (N := ld h 313 1) (fun j a b => e 317 j (by decide) (by decide) a b) (by rw [show hfA 317 = 5 by decide]; omega)
  have a318 := rng_hf (h := h) (h' := h') (x := 318) (N := ld h 313 1) (fun j a b => e 318 j (by decide) (by decide) a b) (by rw [show hfA 318 = 5 by decide]; omega)
  have a319 := rng_hf (h := h) (h' := h') (x := 319) (N := ld h 313 1) (fun j a b => e 319 j (by decide) (by decide) a b) (by rw [show hfA 319 = 5 by decide]; omega)
  have a320 := rng_hf (h := h) (h' := h') (x := 320) (N := ld h 313 1) (fun j a b => e 320 j (by decide) (by decide) a b) (by rw [show hfA 320 = 5 by decide]; omega)
  have a321 := rng_hf (h := h) (h' := h') (x := 321) (N := ld h 313 1) (fun j a b => e 321 j (by decide) (by decide) a b) (by rw [show hfA 321 = 5 by decide]; omega)
  have a322 := rng_hf (h := h) (h' := h') (x := 322) (N := ld h 313 2) (fun j a b => e 322 j (by decide) (by decide) a b) (by rw [show hfA 322 = 10 by decide]; omega)
  have a323 := rng_hf (h := h) (h' := h') (x := 323) (N := ld h 313 2) (fun j a b => e 323 j (by decide) (by decide) a b) (by rw [show hfA 323 = 10 by decide]; omega)
  have a324 := rng_hf (h := h) (h' := h') (x := 324) (N := ld h 313 2) (fun j a b => e 324 j (by decide) (by decide) a b) (by rw [show hfA 324 = 10 by decide]; omega)
  have a325 := rng_hf (h := h) (h' := h') (x := 325) (N := ld h 313 3) (fun j a b => e 325 j (by decide) (by decide) a b) (by rw [show hfA 325 = 3 by decide]; omega)
  have a326 := rng_hf (h := h) (h' := h') (x := 326) (N := ld h 313 3) (fun j a b => e 326 j (by decide) (by decide) a b) (by rw [show hfA 326 = 3 by decide]; omega)
  have a327 := rng_hf (h := h) (h' := h') (x := 327) (N := ld h 313 3) (fun j a b => e 327 j (by decide) (by decide) a b) (by rw [show hfA 327 = 3 by decide]; omega)
  rw [← r2]
  funext f i
  by_cases f28 : 28 ≤ f
  · rw [tR_hi _ f28, tR_hi _ f28]
  by_cases f19 : f < 19
  · unfold tR
    split <;> first | rfl | (exfalso; omega) | (simp only [hh, c 0 (by decide) (by decide), c 1 (by decide) (by decide), c 2 (by decide) (by decide), c 3 (by decide) (by decide), a314, a315, a316, a317, a318, a319, a320, a321, a322, a323, a324, a325, a326, a327])
  obtain ⟨j, hj, hf⟩ : ∃ j : Nat, j < 3 ∧ (f = 19 + j ∨ f = 22 + 2 * j ∨ f = 23 + 2 * j) := by
    by_cases y : f < 22
    · exact ⟨f - 19, by omega, by omega⟩
    · exact ⟨(f - 22) / 2, by omega, by omega⟩
  obtain ⟨a1, a2, a3⟩ := tR_law h' hj
  obtain ⟨b1, b2, b3⟩ := tR_law h hj
  obtain ⟨g1, g2⟩ := d9 (j : Int) (by omega) (by omega)
  have r5j := r5 (j : Int) (by omega) (by omega)
  rcases hf with hf | hf | hf
  · rw [hf, a1, b1, g1, g2]
  · rw [hf, a2, b2, g1, g2]
    unfold rng
    split
    · exact e 331 _ (by decide) (by decide) (by omega) (by rw [show hfA 331 = 64 by decide]; omega)
    · rfl
  · rw [hf, a3, b3, g1, g2]
    unfold rng
    split
    · exact e 332 _ (by decide) (by decide) (by omega) (by rw [show hfA 332 = 64 by decide]; omega)
    · rfl
/-- the arrays below y hold their second halves -/
def HV (h h' : Hp) (y : Int) : Prop := WF h' ∧ h'.2 = h.2 ∧ (∀ a j : Int, ¬ (313 ≤ a ∧ a < y) → ld h' a j = ld h a j) ∧ ∀ a j : Int, 313 ≤ a → a < y → 0 ≤ j → j < hfA a → ld h' a j = ld h a (j + hfA a)
theorem rk_173 {x : Int} (hv : HV h0 h x) (hx : 313 ≤ x ∧ x ≤ 332) (d : Nat) : ∃ h', C d 173 [(2, x)] h = some ((9, 0), h') ∧ HV h0 h' (x + 1) := by
  obtain ⟨w, v1, v2, v3⟩ := id hv
  obtain ⟨f0, f1, f2, f3⟩ := hv_x w hx
  have key : ∀ (m : Nat) (k : Int) (h1 : Hp), 0 ≤ k → k + m = hfA x → WF h1 → h1.2 = h.2 → (∀ a j : Int, a ≠ x → ld h1 a j = ld h a j) → (∀ j : Int, 0 ≤ j → j < k → ld h1 x j = ld h x (j + hfA x)) → (∀ j : Int, k ≤ j → ld h1 x j = ld h x j) → ∃ h', V d 173 7 [(2, x), (0, hfA x), (0, k)] [] h1 = some ((9, 0), h') ∧ HV h0 h' (x + 1) := by
    intro m
    induction m with
    | zero =>
      intro k h1 k0 hk w1 e2 ea eb ec
      refine ⟨h1, by rw [e173_7, if_neg (by omega), e173_26], w1, e2.trans v1, fun a j u => ?_, fun a j a0 a1 j0 j1 => ?_⟩
      · rw [ea a j (by omega), v2 a j (by omega)]
      · by_cases y : a = x
        · rw [y] at j1 ⊢
          rw [eb j j0 (by omega), v2 x _ (by omega)]
        · rw [ea a j y, v3 a j a0 (by omega) j0 j1]
    | succ m ih =>
      intro k h1 k0 hk w1 e2 ea eb ec
      obtain ⟨g0, g1, g2, -⟩ := hv_x w1 hx
      have w2 : WF (st h1 x k (ld h1 x (hfA x + k))) := wf_st w1 (n3xx hx k)
      rw [e173_7, if_pos (by omega), if_pos g0, show w32 (hfA x + k) = hfA x + k by unfold w32; omega, g2, if_pos (by omega), if_pos g1, if_pos (by omega), e173_20, show w32 (k + 1) = k + 1 by unfold w32; omega]
      refine ih (k + 1) _ (by omega) (by omega) w2 e2 (fun a j u => (ld_st_ne (Or.inl u)).trans (ea a j u)) (fun j j0 j1 => ?_) (fun j j0 => (ld_st_ne (Or.inr (by omega))).trans (ec j (by omega)))
      by_cases y : j = k
      · rw [y, ld_st_eq, ec _ (by omega), Int.add_comm]
      · rw [ld_st_ne (Or.inr y)]; exact eb j j0 (by omega)
  rw [ce_173, e173_0, if_pos f0, if_neg (by decide), f2, show w32 (Int.tdiv (2 * hfA x) 2) = hfA x by rw [Int.mul_tdiv_cancel_left _ (by decide)]; unfold w32; omega]
  exact key (hfA x).toNat 0 h (by decide) (by omega) w rfl (fun _ _ _ => rfl) (fun j j0 j1 => by omega) (fun _ _ => rfl)
theorem rk_halves (w : WF h) (d : Nat) : ∃ h', V (d + 1) 174 168 [(2, 311), (9, 0), (9, 0)] [] h = V (d + 1) 174 308 [(2, 311), (9, 0), (9, 0)] [] h' ∧ HV h h' 333 := by
  have v0 : HV h h 313 := ⟨w, rfl, fun _ _ _ => rfl, fun a j a0 a1 => by omega⟩
  obtain ⟨h1, a1, v1⟩ := rk_173 v0 (by decide) d
  rw [show (313 : Int) + 1 = 314 by decide] at v1
  obtain ⟨h2, a2, v2⟩ := rk_173 v1 (by decide) d
  rw [show (314 : Int) + 1 = 315 by decide] at v2
  obtain ⟨h3, a3, v3⟩ := rk_173 v2 (by decide) d
  rw [show (315 : Int) + 1 = 316 by decide] at v3
  obtain ⟨h4, a4, v4⟩ := rk_173 v3 (by decide) d
  rw [show (316 : Int) + 1 = 317 by decide] at v4
  obtain ⟨h5, a5, v5⟩ := rk_173 v4 (by decide) d
  rw [show (317 : Int) + 1 = 318 by decide] at v5
  obtain ⟨h6, a6, v6⟩ := rk_173 v5 (by decide) d
  rw [show (318 : Int) + 1 = 319 by decide] at v6
  obtain ⟨h7, a7, v7⟩ := rk_173 v6 (by decide) d
  rw [show (319 : Int) + 1 = 320 by decide] at v7
  obtain ⟨h8, a8, v8⟩ := rk_173 v7 (by decide) d
  rw [show (320 : Int) + 1 = 321 by decide] at v8
  obtain ⟨h9, a9, v9⟩ := rk_173 v8 (by decide) d
  rw [show (321 : Int) + 1 = 322 by decide] at v9
  obtain ⟨h10, a10, v10⟩ := rk_173 v9 (by decide) d
  rw [show (322 : Int) + 1 = 323 by decide] at v10
  obtain ⟨h11, a11, v11⟩ := rk_173 v10 (by decide) d
  rw [show (323 : Int) + 1 = 324 by decide] at v11
  obtain ⟨h12, a12, v12⟩ := rk_173 v11 (by decide) d
  rw [show (324 : Int) + 1 = 325 by decide] at v12
  obtain ⟨h13, a13, v13⟩ := rk_173 v12 (by decide) d
  rw [show (325 : Int) + 1 = 326 by decide] at v13
  obtain ⟨h14, a14, v14⟩ := rk_173 v13 (by decide) d
  rw [show (326 : Int) + 1 = 327 by decide] at v14
  obtain ⟨h15, a15, v15⟩ := rk_173 v14 (by decide) d
  rw [show (327 : Int) + 1 = 328 by decide] at v15
  obtain ⟨h16, a16, v16⟩ := rk_173 v15 (by decide) d
  rw [show (328 : Int) + 1 = 329 by decide] at v16
  obtain ⟨h17, a17, v17⟩ := rk_173 v16 (by decide) d
  rw [show (329 : Int) + 1 = 330 by decide] at v17
  obtain ⟨h18, a18, v18⟩ := rk_173 v17 (by decide) d
  rw [show (330 : Int) + 1 = 331 by decide] at v18
  obtain ⟨h19, a19, v19⟩ := rk_173 v18 (by decide) d
  rw [show (331 : Int) + 1 = 332 by decide] at v19
  obtain ⟨h20, a20, v20⟩ := rk_173 v19 (by decide) d
  rw [show (332 : Int) + 1 = 333 by decide] at v20
  refine ⟨h20, ?_, v20⟩
  rw [e174_168, if_pos (F_a311 w), P_311_3 w, Cl_eq _ a1, if_pos (F_a311 v1.1), P_311_4 v1.1, Cl_eq _ a2, e174_182, if_pos (F_a311 v2.1), P_311_5 v2.1, Cl_eq _ a3, if_pos (F_a311 v3.1), P_311_6 v3.1, Cl_eq _ a4, e174_196, if_pos (F_a311 v4.1), P_311_7 v4.1, Cl_eq _ a5, if_pos (F_a311 v5.1), P_311_8 v5.1, Cl_eq _ a6, e174_210, if_pos (F_a311 v6.1), P_311_9 v6.1, Cl_eq _ a7, if_pos (F_a311 v7.1), P_311_10 v7.1, Cl_eq _ a8, e174_224, if_pos (F_a311 v8.1), P_311_11 v8.1, Cl_eq _ a9, if_pos (F_a311 v9.1), P_311_12 v9.1, Cl_eq _ a10, e174_238, if_pos (F_a311 v10.1), P_311_13 v10.1, Cl_eq _ a11, if_pos (F_a311 v11.1), P_311_14 v11.1, Cl_eq _ a12, e174_252, if_pos (F_a311 v12.1), P_311_15 v12.1, Cl_eq _ a13, if_pos (F_a311 v13.1), P_311_16 v13.1, Cl_eq _ a14, e174_266, if_pos (F_a311 v14.1), P_311_17 v14.1, Cl_eq _ a15, if_pos (F_a311 v15.1), P_311_18 v15.1, Cl_eq _ a16, e174_280, if_pos (F_a311 v16.1), P_311_19 v16.1, Cl_eq _ a17, if_pos (F_a311 v17.1), P_311_20 v17.1, Cl_eq _ a18, e174_294, if_pos (F_a311 v18.1), P_311_21 v18.1, Cl_eq _ a19, if_pos (F_a311 v19.1), P_311_22 v19.1, Cl_eq _ a20]
/-- a studio's beginning -/
theorem rk_177 (r : RT h T) (tx : TX T) (d : Nat) : ∃ h', C d 177 [(2, 311)] h = some ((9, 0), h') ∧ RK h' 0 T (sInit T) ∧ h'.2 = h.2 ∧ ∀ a j : Int, ¬ (333 ≤ a ∧ a ≤ 342) → ld h' a j = ld h a j := by
  have w := r.1
  have t1 := r.K.2.1
  have t2 := r.K.2.2.1
  have w1 : WF (st h 333 0 0) := wf_st w (npt_A (by decide +kernel) _)
  have w2 : WF (st (st h 333 0 0) 334 0 0) := wf_st w1 (npt_A (by decide +kernel) _)
  have w3 : WF (st (st (st h 333 0 0) 334 0 0) 335 0 0) := wf_st w2 (npt_A (by decide +kernel) _)
  have w4 : WF (st (st (st (st h 333 0 0) 334 0 0) 335 0 0) 336 0 0) := wf_st w3 (npt_A (by decide +kernel) _)
  have w5 : WF (st (st (st (st (st h 333 0 0) 334 0 0) 335 0 0) 336 0 0) 337 0 0) := wf_st w4 (npt_A (by decide +kernel) _)
  have w6 : WF (st (st (st (st (st (st h 333 0 0) 334 0 0) 335 0 0) 336 0 0) 337 0 0) 342 0 0) := wf_st w5 (npt_A (by decide +kernel) _)
  have e44 : C d 177 [(2, 311)] h = V d 177 44 [(2, 311), (0, 0)] [] (st (st (st (st (st (st h 333 0 0) 334 0 0) 335 0 0) 336 0 0) 337 0 0) 342 0 0) := by
    rw [ce_177, e177_0, if_pos (F_a311 w), P_311_36 w, if_pos (W_a333 w), L_a333 w, if_pos (by decide), e177_7, if_pos (F_a311 w1), P_311_37 w1, if_pos (W_a334 w1), L_a334 w1, if_pos (by decide), e177_14, if_pos (F_a311 w2), P_311_38 w2, if_pos (W_a335 w2), L_a335 w2, if_pos (by decide), e177_21, if_pos (F_a311 w3), P_311_39 w3, if_pos (W_a336 w3), L_a336 w3, if_pos (by decide), e177_28, if_pos (F_a311 w4), P_311_40 w4, if_pos (W_a337 w4), L_a337 w4, if_pos (by decide), e177_35, if_pos (F_a311 w5), P_311_45 w5, if_pos (W_a342 w5), L_a342 w5, if_pos (by decide), e177_42]
  have g0 : ∀ a j, ¬ (333 ≤ a ∧ a ≤ 342) → ld (st (st (st (st (st (st h 333 0 0) 334 0 0) 335 0 0) 336 0 0) 337 0 0) 342 0 0) a j = ld h a j := fun a j u => by
    rw [ld_st_ne (by omega), ld_st_ne (by omega), ld_st_ne (by omega), ld_st_ne (by omega), ld_st_ne (by omega), ld_st_ne (by omega)]
  have z : ∀ a : Int, (333 ≤ a ∧ a ≤ 337) ∨ a = 342 → ld (st (st (st (st (st (st h 333 0 0) 334 0 0) 335 0 0) 336 0 0) 337 0 0) 342 0 0) a 0 = 0 := fun a u => by
    have : a = 333 ∨ a = 334 ∨ a = 335 ∨ a = 336 ∨ a = 337 ∨ a = 342 := by omega
    rcases this with rfl | rfl | rfl | rfl | rfl | rfl <;> rfl
  rw [e44]
  have s2 : (st (st (st (st (st (st h 333 0 0) 334 0 0) 335 0 0) 336 0 0) 337 0 0) 342 0 0).2 = h.2 := rfl
  generalize st (st (st (st (st (st h 333 0 0) 334 0 0) 335 0 0) 336 0 0) 337 0 0) 342 0 0 = hA at *
  have rA : RT hA T := RT_eq r w6 (fun x j u v => g0 x j (by omega))
  have l5 : ∀ (m : Nat) (k : Int) (h1 : Hp), 0 ≤ k → k + m = 5 → WF h1 → h1.2 = hA.2 → (∀ a j : Int, a ≠ 338 → ld h1 a j = ld hA a j) → (∀ j : Int, 0 ≤ j → j < k → ld h1 338 j = if j < T 1 0 then T 8 j else 0) → ∃ h', V d 177 44 [(2, 311), (0, k)] [] h1 = V d 177 81 [(2, 311), (9, 0)] [] h' ∧ WF h' ∧ h'.2 = hA.2 ∧ (∀ a j : Int, a ≠ 338 → ld h' a j = ld hA a j) ∧ (∀ j : Int, 0 ≤ j → j < 5 → ld h' 338 j = if j < T 1 0 then T 8 j else 0) := by
    intro m
    induction m with
    | zero =>
      intro k h1 k0 hk w1 e2 ea eb
      exact ⟨h1, by rw [e177_44, if_neg (by omega)], w1, e2, ea, fun j j0 j1 => eb j j0 (by omega)⟩
    | succ m ih =>
      intro k h1 k0 hk w1 e2 ea eb
      have e1 : ld h1 313 1 = T 1 0 := (ea 313 1 (by decide)).trans (rt1 rA)
      have nx : ∀ v : Int, V d 177 74 [(2, 311), (0, k)] [(0, v), (0, k), (2, 338)] h1 = V d 177 44 [(2, 311), (0, k + 1)] [] (st h1 338 k v) := fun v => by
        rw [e177_74, if_pos (W_a338 w1), L_a338 w1, if_pos (by omega), show w32 (k + 1) = k + 1 by unfold w32; omega]
      have go : ∀ v : Int, v = (if k < T 1 0 then T 8 k else 0) → ∃ h', V d 177 44 [(2, 311), (0, k + 1)] [] (st h1 338 k v) = V d 177 81 [(2, 311), (9, 0)] [] h' ∧ WF h' ∧ h'.2 = hA.2 ∧ (∀ a j : Int, a ≠ 338 → ld h' a j = ld hA a j) ∧ (∀ j : Int, 0 ≤ j → j < 5 → ld h' 338 j = if j < T 1 0 then T 8 j else 0) := fun v ev => by
        refine ih (k + 1) _ (by omega) (by omega) (wf_st w1 (npt_A (by decide +kernel) _)) e2 (fun a j u => (ld_st_ne (Or.inl u)).trans (ea a j u)) (fun j j0 j1 => ?_)
        by_cases y : j = k
        · rw [y, ld_st_eq, ev]
        · rw [ld_st_ne (Or.inr y)]; exact eb j j0 (by omega)
      rw [e177_44, if_pos (by omega), if_pos (F_a311 w1), if_pos (F_a311 w1), P_311_3 w1, if_pos (F_a313 w1), L_a313 w1, if_pos (by decide), e1]
      by_cases q : k < T 1 0
      · have e8 : ld h1 318 k = T 8 k := (ea 318 k (by decide)).trans (rt8 rA ⟨k0, q⟩)
        rw [if_pos q, if_pos (F_a311 w1), P_311_8 w1, if_pos (F_a318 w1), L_a318 w1, if_pos (by omega), e8, P_311_41 w1, e177_70, nx]
        exact go _ (by rw [if_pos q])
      · rw [if_neg q, P_311_41 w1, e177_73, nx]
        exact go _ (by rw [if_neg q])
  obtain ⟨hB, aB, wB, sB, fB, vB⟩ := l5 5 0 hA (by decide) (by decide) w6 rfl (fun _ _ _ => rfl) (fun j j0 j1 => by omega)
  have l10 : ∀ (m : Nat) (k : Int) (h1 : Hp), 0 ≤ k → k + m = 10 → WF h1 → h1.2 = hB.2 → (∀ a j : Int, ¬ (339 ≤ a ∧ a ≤ 341) → ld h1 a j = ld hB a j) → (∀ j : Int, 0 ≤ j → j < k → ld h1 339 j = 0 ∧ ld h1 340 j = 0 ∧ ld h1 341 j = -1) → ∃ h', V d 177 83 [(2, 311), (0, k)] [] h1 = some ((9, 0), h') ∧ WF h' ∧ h'.2 = hB.2 ∧ (∀ a j : Int, ¬ (339 ≤ a ∧ a ≤ 341) → ld h' a j = ld hB a j) ∧ (∀ j : Int, 0 ≤ j → j < 10 → ld h' 339 j = 0 ∧ ld h' 340 j = 0 ∧ ld h' 341 j = -1) := by
    intro m
    induction m with
    | zero =>
      intro k h1 k0 hk w1 e2 ea eb
      exact ⟨h1, by rw [e177_83, if_neg (by omega), e177_116], w1, e2, ea, fun j j0 j1 => eb j j0 (by omega)⟩
    | succ m ih =>
      intro k h1 k0 hk w1 e2 ea eb
      have x1 : WF (st h1 339 k 0) := wf_st w1 (npt_A (by decide +kernel) _)
      have x2 : WF (st (st h1 339 k 0) 340 k 0) := wf_st x1 (npt_A (by decide +kernel) _)
      have x3 : WF (st (st (st h1 339 k 0) 340 k 0) 341 k (-1)) := wf_st x2 (npt_A (by decide +kernel) _)
      rw [e177_83, if_pos (by omega), if_pos (F_a311 w1), P_311_42 w1, if_pos (W_a339 w1), L_a339 w1, if_pos (by omega), e177_96, if_pos (F_a311 x1), P_311_43 x1, if_pos (W_a340 x1), L_a340 x1, if_pos (by omega), e177_103, if_pos (F_a311 x2), P_311_44 x2, if_pos (W_a341 x2), L_a341 x2, if_pos (by omega), e177_110, show w32 (k + 1) = k + 1 by unfold w32; omega]
      refine ih (k + 1) _ (by omega) (by omega) x3 e2 (fun a j u => by rw [ld_st_ne (by omega), ld_st_ne (by omega), ld_st_ne (by omega)]; exact ea a j u) (fun j j0 j1 => ?_)
      by_cases y : j = k
      · rw [y]; exact ⟨by rw [ld_st_ne (Or.inl (by decide)), ld_st_ne (Or.inl (by decide)), ld_st_eq], by rw [ld_st_ne (Or.inl (by decide)), ld_st_eq], ld_st_eq _ _ _ _⟩
      · rw [ld_st_ne (Or.inl (by decide)), ld_st_ne (Or.inl (by decide)), ld_st_ne (Or.inr y), ld_st_ne (Or.inl (by decide)), ld_st_ne (Or.inr y), ld_st_ne (Or.inl (by decide)), ld_st_ne (Or.inr y), ld_st_ne (Or.inl (by decide)), ld_st_ne (Or.inl (by decide))]
        exact eb j j0 (by omega)
  obtain ⟨hC, aC, wC, sC, fC, vC⟩ := l10 10 0 hB (by decide) (by decide) wB rfl (fun _ _ _ => rfl) (fun j j0 j1 => by omega)
  have fr : ∀ a j : Int, ¬ (338 ≤ a ∧ a ≤ 341) → ld hC a j = ld hA a j := fun a j u => by rw [fC a j (by omega), fB a j (by omega)]
  have z8 : ∀ i, T 8 i = rng i (T 1 0) (ld h 318 i) := fun i => by
    have := congrFun (congrFun r.2.1 8) i
    rw [← this, ← rt1 r]; rfl
  refine ⟨hC, by rw [aB, e177_81, aC], ⟨RT_eq rA wC (fun x j u v => fr x j (by omega)), by decide, ?_, fun f i => ?_⟩, by rw [sC, sB, s2], fun a j u => by rw [fr a j (by omega), g0 a j u]⟩
  · funext f i
    have y3 : ld hC 333 0 = 0 := (fr 333 0 (by decide)).trans (z 333 (by decide))
    have y4 : ld hC 334 0 = 0 := (fr 334 0 (by decide)).trans (z 334 (by decide))
    have y5 : ld hC 335 0 = 0 := (fr 335 0 (by decide)).trans (z 335 (by decide))
    have y6 : ld hC 336 0 = 0 := (fr 336 0 (by decide)).trans (z 336 (by decide))
    have y7 : ld hC 337 0 = 0 := (fr 337 0 (by decide)).trans (z 337 (by decide))
    have y8 : ld hC 342 0 = 0 := (fr 342 0 (by decide)).trans (z 342 (by decide))
    have r0 : ∀ v, rng i 0 v = 0 := fun v => by unfold rng; rw [if_neg (by omega)]
    have e6 : rng i (T 1 0) (ld hC 338 (5 * 0 + i)) = T 8 i := by
      rw [z8]
      unfold rng
      by_cases u : 0 ≤ i ∧ i < T 1 0
      · rw [if_pos u, if_pos u, show 5 * 0 + i = i by omega, fC 338 i (by decide), vB i u.1 (by omega), if_pos u.2, z8, rng_in u]
      · rw [if_neg u, if_neg u]
    have e7 : ∀ (a v : Int), (∀ j : Int, 0 ≤ j → j < 10 → ld hC a j = v) → rng i (T 2 0) (ld hC a (10 * 0 + i)) = rng i (T 2 0) v := fun a v hv => by
      unfold rng
      by_cases u : 0 ≤ i ∧ i < T 2 0
      · rw [if_pos u, if_pos u, show 10 * 0 + i = i by omega, hv i u.1 (by omega)]
      · rw [if_neg u, if_neg u]
    have r00 : ∀ N, rng i N 0 = 0 := fun N => by unfold rng; split <;> rfl
    unfold sR sInit
    split
    · exact y3
    · exact y4
    · exact y5
    · exact y6
    · show and32 (ld hC 337 0) (xor32 (ld hC 336 0) (-1)) = 0
      rw [y7, y6]; decide
    · exact y8
    · exact e6
    · exact (e7 339 0 (fun j j0 j1 => (vC j j0 j1).1)).trans (r00 _)
    · exact (e7 340 0 (fun j j0 j1 => (vC j j0 j1).2.1)).trans (r00 _)
    · exact e7 341 (-1) (fun j j0 j1 => (vC j j0 j1).2.2)
    · show rng i (ld hC 342 0) _ = 0
      rw [y8]; exact r0 _
    · show rng i (ld hC 342 0) _ = 0
      rw [y8]; exact r0 _
    · split <;> first | rfl | (exfalso; omega) | (exfalso; simp_all)
  · unfold sInit
    split
    · exact r.2.2.2.1 8 i
    · unfold rng; split <;> exact I32_of (by decide)
    · exact I32_of (by decide)
theorem IV_ini {n : Int} (r : RT h T) (tx : TX T) (hn : 0 ≤ n) : IV n T (sInit T) := by
  have hT := r.K
  have t1 := hT.2.1
  have z8 : ∀ s, 0 ≤ s → s < 5 → 0 ≤ T 8 s ∧ T 8 s ≤ 999 := fun s s0 s5 => by
    by_cases u : s < T 1 0
    · exact (tx.2 s s0 u).1
    · have := congrFun (congrFun r.2.1 8) s
      have e : T 8 s = rng s (ld h 313 1) (ld h 318 s) := this.symm
      rw [e, rt1 r]
      unfold rng
      rw [if_neg (fun v => u v.2)]; decide
  refine ⟨fun p p0 p1 => ⟨⟨by show (0 : Int) ≤ 0; omega, ?_⟩, by show (0 : Int) ≤ 0 ∧ (0 : Int) ≤ 999; decide, fun u => ?_⟩, fun s s0 s5 => (z8 s s0 s5).1, ?_, by show (0 : Int) ≤ 0 ∧ (0 : Int) ≤ 40; decide, by show (0 : Int) ≤ 0 ∧ (0 : Int) ≤ 100; decide, by show (0 : Int) ≤ 0 ∧ (0 : Int) < 1024; decide, by show (0 : Int) ≤ 0 ∧ (0 : Int) < 32; decide, fun p p0 p1 => Or.inl ?_⟩
  · show (0 : Int) ≤ tSize T p
    obtain ⟨-, -, f1, -⟩ := pieT hT ⟨p0, p1⟩
    have := (hT.2.2.2.2.2.2 (T 13 p) f1.1 f1.2).2.1
    unfold tSize; omega
  · unfold qLap at u
    rw [show sInit T 3 0 = 0 from rfl, and32_1, show shr32 0 p = 0 by unfold shr32; exact Int.zero_ediv _] at u
    exact absurd u (by decide)
  · have a0 := z8 0 (by decide) (by decide)
    have a1 := z8 1 (by decide) (by decide)
    have a2 := z8 2 (by decide) (by decide)
    have a3 := z8 3 (by decide) (by decide)
    have a4 := z8 4 (by decide) (by decide)
    show T 8 0 + T 8 1 + T 8 2 + T 8 3 + T 8 4 ≤ 1000 * (n + 10)
    omega
  · show rng p (T 2 0) (-1) = -1
    exact rng_in ⟨p0, p1⟩
end TT
