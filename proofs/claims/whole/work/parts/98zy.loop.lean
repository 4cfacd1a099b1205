/-! layer 2: looks, and the law's loop -/
section LO2
variable {h : Hp} {z : Zt} {n : Int}
theorem ce_254 (d : Nat) (x0 x1 x2 x3 : Int) (h : Hp) : C d 254 [(2, x0), (0, x1), (0, x2), (2, x3)] h = V d 254 0 [(2, x0), (0, x1), (0, x2), (2, x3), (9, 0)] [] h := (C_of (y := 254) (as := [(2, x0), (0, x1), (0, x2), (2, x3)]) (show (4 : Nat) ≤ nlo 254 by decide +kernel)).trans (by unfold loc0; rw [show nlo 254 = 5 by decide +kernel]; rfl)
theorem e254_0 (d : Nat) (x0 x1 x2 x3 : Int) (h : Hp) : V d 254 0 [(2, x0), (0, x1), (0, x2), (2, x3), (9, 0)] [] h = (if okF h x3 1 = true then (if okF h x0 30 = true then (Cl d 7 [(2, x0), (0, x1), (0, x2)] 0 h (fun r1 h1 => if r1 = (1099511627777 : Int) then V d 254 50 [(2, x0), (0, x1), (0, x2), (2, x3), (9, 0)] [(0, r1)] h1 else (if r1 = (1099511627778 : Int) then V d 254 60 [(2, x0), (0, x1), (0, x2), (2, x3), (9, 0)] [(0, r1)] h1 else (if okW h1 x3 1 = true then (if (0 : Int) ≤ 0 ∧ (0 : Int) < len h1 x3 then some ((0, 0), st h1 x3 0 r1) else none) else none)))) else none) else none) := (V_blk d 254 [] (by decide +kernel) [(.aload_n 3, 1, [], []), (.arraylength, 1, [], [1]), (.pop, 1, [], []), (.aload_n 0, 1, [], []), (.iload_n 1, 1, [], []), (.iload_n 2, 1, [], []), (.invokevirtual 7, 3, [], [7, 3, 0, 30]), (.dup, 1, [], []), (.ldc 0, 2, [], [0, 1099511627777]), (.if_icmp .eq 0, 3, [], [50]), (.dup, 1, [], []), (.ldc 0, 2, [], [0, 1099511627778]), (.if_icmp .eq 0, 3, [], [60]), (.istore 4, 2, [], []), (.aload_n 3, 1, [], []), (.iconst 0, 1, [], []), (.iload 4, 2, [], []), (.i2l, 1, [], []), (.lastore, 1, [], []), (.iconst 0, 1, [], []), (.ireturn, 1, [], [0])] _ _ _ _ (by decide +kernel)).trans rfl
theorem e254_50 (d : Nat) (x0 x1 x2 x3 s0 : Int) (h : Hp) : V d 254 50 [(2, x0), (0, x1), (0, x2), (2, x3), (9, 0)] [(0, s0)] h = some ((0, 1), h) := (V_blk d 254 [] (by decide +kernel) [(.pop, 1, [], []), (.iconst 1, 1, [], []), (.ireturn, 1, [], [0])] _ _ _ _ (by decide +kernel)).trans rfl
theorem e254_60 (d : Nat) (x0 x1 x2 x3 s0 : Int) (h : Hp) : V d 254 60 [(2, x0), (0, x1), (0, x2), (2, x3), (9, 0)] [(0, s0)] h = some ((0, 2), h) := (V_blk d 254 [] (by decide +kernel) [(.pop, 1, [], []), (.iconst 2, 1, [], []), (.ireturn, 1, [], [0])] _ _ _ _ (by decide +kernel)).trans rfl
theorem look_I (rr : RR n h z) {s x : Int} (q : lkC s x z = 0) : I32 (zLook s x z) := by
  have hT := rr.k.K
  have t2 := hT.2.2.1
  unfold lkC at q
  unfold zLook
  by_cases q1 : qSit z.T s = false
  · rw [if_pos q1] at q; omega
  rw [if_neg q1] at q ⊢
  split at q
  · omega
  split
  · exact rr.k.2.2.2 6 s
  split
  · exact I32_of (by have := bI_01 (qLiv z.S s); omega)
  split
  · exact I32_of (by have := sFace_r (S := z.S) hT s; omega)
  split
  · have := cnf_bd (fun p => decide (z.S 9 p = s)) (z.T 2 0).toNat 0 0
    exact I32_of (by unfold sOwned; omega)
  split
  · exact rr.k.1.2.2.2.1 10 s
  split
  · exact rr.k.1.2.2.2.1 11 s
  · omega
theorem WF_thr (w : WF h) : WF (thr h) := ⟨w.1, w.2.1, w.2.2⟩
theorem kq_254 (c : CR h z) (rr : RR n h z) (s x : Int) (d : Nat) : ∃ h1, C (d + 5) 254 [(2, 1), (0, s), (0, x), (2, 356)] h = some ((0, lkC s x z), h1) ∧ (lkC s x z = 0 → ld h1 356 0 = zLook s x z) ∧ CR h1 z ∧ (∀ a j : Int, a ≠ 356 → ld h1 a j = ld h a j) ∧ (h1.2.1 = h.2.1 ∧ h1.2.2.1 = h.2.2.1 ∧ h1.2.2.2 ≤ h.2.2.2 + 1) := by
  have w := c.w
  have k7 := kq_7 c s x d
  have e1 : (zThr s x z = true ∧ ¬ lkC s x z = 0) ∨ (zThr s x z = false ∧ lkC s x z = 0) := by
    unfold zThr lkC
    cases q1 : qSit z.T s with
    | false => rw [if_pos rfl]; exact Or.inl ⟨rfl, by decide⟩
    | true =>
      rw [if_neg (by decide)]
      by_cases q2 : x < 0 ∨ 5 < x
      · rw [if_pos q2, decide_eq_false (by omega)]; exact Or.inl ⟨rfl, by decide⟩
      · rw [if_neg q2, decide_eq_true (by omega)]; exact Or.inr ⟨rfl, rfl⟩
  rw [ce_254, e254_0, if_pos (F_a356 w), if_pos (F_a1 w), Cl_eq _ k7]
  rcases e1 with ⟨t, l⟩ | ⟨t, l⟩
  · rw [if_pos t]
    have wt := WF_thr w
    have ct : CR (thr h) z := CR_M c wt (fun _ _ _ => rfl)
    refine ⟨thr h, ?_, fun u => absurd u l, ct, fun _ _ _ => rfl, rfl, rfl, Nat.le_refl _⟩
    unfold lkC at l ⊢
    unfold zLook
    by_cases q1 : qSit z.T s = false
    · rw [if_pos q1, if_pos q1, if_pos rfl, e254_50]
    · rw [if_neg q1] at l
      have q2 : x < 0 ∨ 5 < x := by
        by_cases y : x < 0 ∨ 5 < x
        · exact y
        · rw [if_neg y] at l; exact absurd rfl l
      rw [if_neg q1, if_neg q1, if_pos q2, if_neg (show ¬ x = 0 by omega), if_neg (show ¬ x = 1 by omega), if_neg (show ¬ x = 2 by omega), if_neg (show ¬ x = 3 by omega), if_neg (show ¬ x = 4 by omega), if_neg (show ¬ x = 5 by omega), if_neg (by decide), if_pos rfl, e254_60]
  · rw [if_neg (show ¬ zThr s x z = true by rw [t]; decide)]
    have i := look_I rr l
    unfold I32 at i
    have w1 : WF (st h 356 0 (zLook s x z)) := wf_st w (npt_A (by decide +kernel) _)
    refine ⟨st h 356 0 (zLook s x z), ?_, fun _ => ld_st_eq _ _ _ _, CR_M c w1 (fun a j u => ld_st_ne (by omega)), fun a j u => ld_st_ne (Or.inl u), rfl, rfl, Nat.le_succ _⟩
    rw [if_neg (show ¬ zLook s x z = 1099511627777 by omega), if_neg (show ¬ zLook s x z = 1099511627778 by omega), if_pos (W_a356 w), L_a356 w, if_pos (by decide), l]
theorem st_328 (c : CR h z) (rr : RR n h z) (b : BY z) (hn : n < 600) (e : Nat) {i : Int} (rg : ∀ (h' : Hp) (j : Int), h'.2.2.1 = h.2.2.1 → (1 ≤ j ∧ j ≤ 5) → 0 ≤ w32 (i + j) ∧ w32 (i + j) < len h' (-50)) : SQ 328 e i n h := by
  have w := c.w
  obtain ⟨h1, a1, v1, c1, f1, s1, s2, s3⟩ := kq_254 c rr (ld h (-50) (w32 (i + 1))) (ld h (-50) (w32 (i + 2))) (e + 194)
  have w1 := c1.w
  have r1 : RR n h1 z := RR_keep rr w1 (fun x j u => f1 x j (by unfold rz at u; omega))
  obtain ⟨h2, a2, r2, f2, e2⟩ := rk_206 r1 (ld h (-50) (w32 (i + 1))) (ld h (-50) (w32 (i + 2))) (e + 197)
  have w2 := r2.k.w
  have a3 := rk_136 r2 (e + 199)
  rw [e2] at a3
  have g1 : ∀ x, ld h1 (-50) x = ld h (-50) x := fun x => f1 _ _ (by decide)
  have o2 : ld h2 356 0 = ld h1 356 0 := f2.2 356 0 (Or.inr (by decide))
  refine ⟨h2, z, n, ?_, CR_M c1 w2 (fun a j u => f2.2 a j (Or.inl u)), r2, b, ⟨by omega, by omega⟩, NG_tr (C_ng a1) (C_ng a2), by rw [f2.1]; exact ⟨s1, s2, s3⟩⟩
  have e393 : V (e + 200) 0 376 [(2, -50), (2, 1), (2, 311), (2, 356), (0, i), (0, lkC (ld h (-50) (w32 (i + 1))) (ld h (-50) (w32 (i + 2))) z), (0, if lkC (ld h (-50) (w32 (i + 1))) (ld h (-50) (w32 (i + 2))) z = 0 then zLook (ld h (-50) (w32 (i + 1))) (ld h (-50) (w32 (i + 2))) z else 0)] [] h2 = V (e + 200) 0 1048 [(2, -50), (2, 1), (2, 311), (2, 356), (0, i), (9, 0), (9, 0)] [] h2 := by
    rw [e0_376]
    by_cases q : lkC (ld h (-50) (w32 (i + 1))) (ld h (-50) (w32 (i + 2))) z = 0
    · rw [if_pos q, if_pos q, if_pos (F_a356 w2), L_a356 w2, if_pos (by decide), o2, v1 q, if_pos (show lcm _ _ = 0 from by unfold lcm; rw [if_neg (by omega), if_pos rfl]), e0_393]
    · rw [if_neg q, e0_393]
  rw [e0_328, if_pos (okF50 h), if_pos (rg h 1 rfl (by decide)), if_pos (okF50 h), if_pos (rg h 2 rfl (by decide)), Cl_eq _ a1, e0_347, if_pos (okF50 h1), if_pos (rg h1 1 s2 (by decide)), if_pos (okF50 h1), if_pos (rg h1 2 s2 (by decide)), if_pos (F_a311 w1), g1, g1, Cl_eq _ a2, e0_365, if_pos (F_a311 w2), Cl_eq _ a3, if_pos rfl, e393]
theorem loop_ok {L0 : Nat} (hL : L0 ≤ 3072) (e : Nat) : ∀ (m : Nat) (i n : Int) (h : Hp) (z : Zt), CR h z → RR n h z → BY z → h.2.2.1 = L0 → 0 ≤ i → (L0 : Int) - i < 6 * m → n + m ≤ 600 → ∃ h', V (e + 200) 0 23 [(2, -50), (2, 1), (2, 311), (2, 356), (0, i), (9, 0), (9, 0)] [] h = some ((0, 1), h') ∧ h'.2.1 = h.2.1 ∧ h'.2.2.2 ≤ h.2.2.2 + m := by
  intro m
  induction m with
  | zero =>
    intro i n h z c rr b eL i0 hm hn
    refine ⟨h, ?_, rfl, Nat.le_refl _⟩
    rw [e0_23, if_pos (okF50 h), len50, eL, if_pos (by unfold w32; omega), e0_1054, if_pos (Or.inr rfl)]
  | succ m ih =>
    intro i n h z c rr b eL i0 hm hn
    by_cases q : (L0 : Int) - 6 < i
    · refine ⟨h, ?_, rfl, by omega⟩
      rw [e0_23, if_pos (okF50 h), len50, eL, if_pos (by unfold w32; omega), e0_1054, if_pos (Or.inr rfl)]
    · have rg : ∀ (h' : Hp) (j : Int), h'.2.2.1 = h.2.2.1 → (1 ≤ j ∧ j ≤ 5) → 0 ≤ w32 (i + j) ∧ w32 (i + j) < len h' (-50) := fun h' j e1 e2 => by
        rw [len50, e1, eL]; unfold w32; omega
      have nx : ∀ (h2 : Hp) (z2 : Zt) (n2 : Int), CR h2 z2 → RR n2 h2 z2 → BY z2 → (n ≤ n2 ∧ n2 ≤ n + 1) → (h2.2.1 = h.2.1 ∧ h2.2.2.1 = h.2.2.1 ∧ h2.2.2.2 ≤ h.2.2.2 + 1) → ∃ h', V (e + 200) 0 1048 [(2, -50), (2, 1), (2, 311), (2, 356), (0, i), (9, 0), (9, 0)] [] h2 = some ((0, 1), h') ∧ h'.2.1 = h.2.1 ∧ h'.2.2.2 ≤ h.2.2.2 + ((m + 1 : Nat) : Nat) := fun h2 z2 n2 c2 r2 b2 hn2 s2 => by
        obtain ⟨h', a', t1, t2⟩ := ih (i + 6) n2 h2 z2 c2 r2 b2 (s2.2.1.trans eL) (by omega) (by omega) (by omega)
        refine ⟨h', ?_, t1.trans s2.1, by omega⟩
        rw [e0_1048, show w32 (i + 6) = i + 6 by unfold w32; omega]
        exact a'
      have go : ∀ P, SQ P e i n h → ∃ h', V (e + 200) 0 P [(2, -50), (2, 1), (2, 311), (2, 356), (0, i), (9, 0), (9, 0)] [] h = some ((0, 1), h') ∧ h'.2.1 = h.2.1 ∧ h'.2.2.2 ≤ h.2.2.2 + ((m + 1 : Nat) : Nat) := fun P s => by
        obtain ⟨h2, z2, n2, a2, c2, r2, b2, hn2, -, s2⟩ := s
        rw [a2]
        exact nx h2 z2 n2 c2 r2 b2 hn2 s2
      have hn6 : n < 600 := by omega
      have e33 : V (e + 200) 0 23 [(2, -50), (2, 1), (2, 311), (2, 356), (0, i), (9, 0), (9, 0)] [] h = V (e + 200) 0 33 [(2, -50), (2, 1), (2, 311), (2, 356), (0, i), (9, 0), (9, 0)] [] h := by
        rw [e0_23, if_pos (okF50 h), len50, eL, if_neg (by unfold w32; omega)]
      rw [e33, e0_33, if_pos (okF50 h), if_pos (by rw [len50, eL]; omega)]
      by_cases q0 : and32 (ld h (-50) i) 31 = 0
      · rw [if_pos q0]; exact go 168 (st_168 c rr b hn6 e rg)
      rw [if_neg q0]
      by_cases q1 : and32 (ld h (-50) i) 31 = 1
      · rw [if_pos q1]; exact go 241 (st_241 c rr b hn6 e rg)
      rw [if_neg q1]
      by_cases q2 : and32 (ld h (-50) i) 31 = 2
      · rw [if_pos q2]; exact go 266 (st_266 c rr b hn6 e rg)
      rw [if_neg q2]
      by_cases q3 : and32 (ld h (-50) i) 31 = 3
      · rw [if_pos q3]; exact go 291 (st_291 c rr b hn6 e rg)
      rw [if_neg q3]
      by_cases q4 : and32 (ld h (-50) i) 31 = 4
      · rw [if_pos q4]; exact go 328 (st_328 c rr b hn6 e rg)
      rw [if_neg q4]
      by_cases q5 : and32 (ld h (-50) i) 31 = 5
      · rw [if_pos q5]; exact go 396 (st_396 c rr b hn6 e rg)
      rw [if_neg q5]
      by_cases q6 : and32 (ld h (-50) i) 31 = 6
      · rw [if_pos q6]; exact go 433 (st_433 c rr b hn6 e rg)
      rw [if_neg q6]
      by_cases q7 : and32 (ld h (-50) i) 31 = 7
      · rw [if_pos q7]; exact go 483 (st_483 c rr b hn6 e rg)
      rw [if_neg q7]
      by_cases q8 : and32 (ld h (-50) i) 31 = 8
      · rw [if_pos q8]; exact go 508 (st_508 c rr b hn6 e rg)
      rw [if_neg q8]
      by_cases q9 : and32 (ld h (-50) i) 31 = 9
      · rw [if_pos q9]; exact go 545 (st_545 c rr b hn6 e rg)
      rw [if_neg q9]
      by_cases q10 : and32 (ld h (-50) i) 31 = 10
      · rw [if_pos q10]; exact go 582 (st_582 c rr b hn6 e rg)
      rw [if_neg q10]
      by_cases q11 : and32 (ld h (-50) i) 31 = 11
      · rw [if_pos q11]; exact go 619 (st_619 c rr b hn6 e rg)
      rw [if_neg q11]
      by_cases q12 : and32 (ld h (-50) i) 31 = 12
      · rw [if_pos q12]; exact go 644 (st_644 c rr b hn6 e rg)
      rw [if_neg q12]
      by_cases q13 : and32 (ld h (-50) i) 31 = 13
      · rw [if_pos q13]; exact go 669 (st_669 c rr b hn6 e rg)
      rw [if_neg q13]
      by_cases q14 : and32 (ld h (-50) i) 31 = 14
      · rw [if_pos q14]; exact go 694 (st_694 c rr b hn6 e rg)
      rw [if_neg q14]
      by_cases q15 : and32 (ld h (-50) i) 31 = 15
      · rw [if_pos q15]; exact go 707 (st_707 c rr b hn6 e rg)
      rw [if_neg q15]
      by_cases q16 : and32 (ld h (-50) i) 31 = 16
      · rw [if_pos q16]; exact go 732 (st_732 c rr b hn6 e rg)
      rw [if_neg q16]
      by_cases q17 : and32 (ld h (-50) i) 31 = 17
      · rw [if_pos q17]; exact go 769 (st_769 c rr b hn6 e rg)
      rw [if_neg q17]
      by_cases q18 : and32 (ld h (-50) i) 31 = 18
      · rw [if_pos q18]; exact go 806 (st_806 c rr b hn6 e rg)
      rw [if_neg q18]
      by_cases q19 : and32 (ld h (-50) i) 31 = 19
      · rw [if_pos q19]; exact go 859 (st_859 c rr b hn6 e rg)
      rw [if_neg q19]
      by_cases q20 : and32 (ld h (-50) i) 31 = 20
      · rw [if_pos q20]; exact go 884 (st_884 c rr b hn6 e rg)
      rw [if_neg q20]
      by_cases q21 : and32 (ld h (-50) i) 31 = 21
      · rw [if_pos q21]; exact go 909 (st_909 c rr b hn6 e rg)
      rw [if_neg q21]
      by_cases q22 : and32 (ld h (-50) i) 31 = 22
      · rw [if_pos q22]; exact go 922 (st_922 c rr b hn6 e rg)
      rw [if_neg q22]
      by_cases q23 : and32 (ld h (-50) i) 31 = 23
      · rw [if_pos q23]; exact go 935 (st_935 c rr b hn6 e rg)
      rw [if_neg q23]
      by_cases q24 : and32 (ld h (-50) i) 31 = 24
      · rw [if_pos q24]; exact go 984 (st_984 c rr b hn6 e rg)
      rw [if_neg q24]
      by_cases q25 : and32 (ld h (-50) i) 31 = 25
      · rw [if_pos q25]; exact go 997 (st_997 c rr b hn6 e rg)
      rw [if_neg q25]
      by_cases q26 : and32 (ld h (-50) i) 31 = 26
      · rw [if_pos q26]; exact go 1010 (st_1010 c rr b hn6 e rg)
      rw [if_neg q26]
      by_cases q27 : and32 (ld h (-50) i) 31 = 27
      · rw [if_pos q27]; exact go 1023 (st_1023 c rr b hn6 e rg)
      rw [if_neg q27]
      exact nx h z n c rr b ⟨by omega, by omega⟩ ⟨rfl, rfl, by omega⟩
end LO2
