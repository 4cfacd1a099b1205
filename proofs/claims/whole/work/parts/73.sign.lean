/-! layer 2: signs, the next token -/
def lxX (tp : Int → Int) (n i : Int) : Int := if i < n then tp i else -1
def lx2 (c e : Int) : Int := if (c = 60 ∧ (e = 61 ∨ e = 62)) ∨ (c = 62 ∧ e = 61) then 1 else 0
def lTok (tp : Int → Int) (n pl : Int) : Int × Int :=
  if ¬ pl < n then (-1, pl) else if clo (tp pl) = true then (lxKW tp pl (lxE clo tp n pl), lxE clo tp n pl) else if cdg (tp pl) = true then (-4, lxE cdg tp n pl) else (lxS (tp pl) (lxX tp n (pl + 1)), pl + 1 + lx2 (tp pl) (lxX tp n (pl + 1)))
section SI
variable {h : Hp} {n i : Int}
theorem kq_62 (r : RdC h n i) (hi : i < n) (d : Nat) : ∃ h', C (d + 1) 62 [(2, 4)] h = some ((9, 0), h') ∧ FrR h h' ∧ RdC h' n (i + 1 + lx2 (tpC h i) (lxX (tpC h) n (i + 1))) ∧ ld h' 4 3 = lxS (tpC h i) (lxX (tpC h) n (i + 1)) ∧ ld h' 4 4 = ld h 4 4 ∧ ld h' 4 5 = ld h 4 5 ∧ ld h' 4 6 = ld h 4 6 := by
  obtain ⟨w, r0, r1, rn, r2, ri⟩ := id r
  obtain ⟨c1, c2⟩ := rd_c r hi
  have f1 := FrR_st (FrR_rf w) (j := 2) (by decide) (i + 1)
  have g1 : ∀ j, j ≠ 2 → ld (st h 4 2 (i + 1)) 4 j = ld h 4 j := fun j e => ld_st_ne (Or.inr e)
  have rr : RdC (st h 4 2 (i + 1)) n (i + 1) := RdC_fr r f1 (ld_st_eq _ _ _ _) (by omega)
  have ht : tpC (st h 4 2 (i + 1)) = tpC h := FrR_tp f1
  rw [ce_62, e62_0, if_pos (F_a4 w), if_pos (F_a4 w), r2, r1, if_pos hi, e62_11, if_pos (F_a4 w), if_pos (F_a4 w), r0, r2, if_pos c1, if_pos c2, e62_24, if_pos (F_a4 w), if_pos (W_a4 w), r2, w1 r hi, show ld h 2 i = tpC h i from rfl]
  generalize st h 4 2 (i + 1) = h1 at *
  generalize hc : tpC h i = c at *
  -- it is put down
  have put : ∀ (h2 : Hp) (v k : Int), FrR h1 h2 → (∀ j, j ≠ 2 → ld h2 4 j = ld h1 4 j) → RdC h2 n k → FrR h (st h2 4 3 v) ∧ RdC (st h2 4 3 v) n k ∧ ld (st h2 4 3 v) 4 3 = v ∧ ld (st h2 4 3 v) 4 4 = ld h 4 4 ∧ ld (st h2 4 3 v) 4 5 = ld h 4 5 ∧ ld (st h2 4 3 v) 4 6 = ld h 4 6 := fun h2 v k f2 g2 r2' => by
    have f3 := FrR_st (FrR_tr f1 f2) (j := 3) (by decide) v
    have g : ∀ j, j ≠ 2 → j ≠ 3 → ld (st h2 4 3 v) 4 j = ld h 4 j := fun j e1 e2 => (ld_st_ne (Or.inr e2)).trans ((g2 j e1).trans (g1 j e1))
    exact ⟨f3, RdC_fr r f3 ((ld_st_ne (Or.inr (by decide))).trans r2'.2.2.2.2.1) ⟨r2'.2.2.2.2.2.1, r2'.2.2.2.2.2.2⟩, ld_st_eq _ _ _ _, g 4 (by decide) (by decide), g 5 (by decide) (by decide), g 6 (by decide) (by decide)⟩
  have W1 := W_a4 rr.1
  have P := put h1
  have fin0 : ∀ v, lxS c (lxX (tpC h) n (i + 1)) = v → lx2 c (lxX (tpC h) n (i + 1)) = 0 → ∃ h', some (((9 : Nat), (0 : Int)), st h1 4 3 v) = some ((9, 0), h') ∧ FrR h h' ∧ RdC h' n (i + 1 + lx2 c (lxX (tpC h) n (i + 1))) ∧ ld h' 4 3 = lxS c (lxX (tpC h) n (i + 1)) ∧ ld h' 4 4 = ld h 4 4 ∧ ld h' 4 5 = ld h 4 5 ∧ ld h' 4 6 = ld h 4 6 := fun v e1 e2 => by
    rw [e1, e2, Int.add_zero]
    obtain ⟨p1, p2, p3⟩ := put h1 v (i + 1) (FrR_rf rr.1) (fun _ _ => rfl) rr
    exact ⟨_, rfl, p1, p2, p3⟩
  have one : ∀ x : Int, 0 < x → (decide (i + 1 < n) && decide (tpC h (i + 1) = x)) = decide (lxX (tpC h) n (i + 1) = x) := fun x hx => by
    unfold lxX
    by_cases q : i + 1 < n
    · rw [if_pos q]; simp [q]
    · rw [if_neg q]; simp [q]; omega
  have oneP : ∀ x : Int, 0 < x → (i + 1 < n ∧ tpC h (i + 1) = x) = (lxX (tpC h) n (i + 1) = x) := fun x hx => by
    unfold lxX
    apply propext
    by_cases q : i + 1 < n
    · rw [if_pos q]; simp [q]
    · rw [if_neg q]; simp [q]; omega
  by_cases k59 : c = 59
  · subst k59
    rw [e62_35]; simp only [Int.reduceEq, if_false, if_true]
    rw [e62_144, if_pos W1, e62_151, e62_296]; exact fin0 _ rfl rfl
  by_cases k40 : c = 40
  · subst k40
    rw [e62_35]; simp only [Int.reduceEq, if_false, if_true]
    rw [e62_154, if_pos W1, e62_296]; exact fin0 _ rfl rfl
  by_cases k41 : c = 41
  · subst k41
    rw [e62_35]; simp only [Int.reduceEq, if_false, if_true]
    rw [e62_164, if_pos W1, e62_296]; exact fin0 _ rfl rfl
  by_cases k42 : c = 42
  · subst k42
    rw [e62_35]; simp only [Int.reduceEq, if_false, if_true]
    rw [e62_194, if_pos W1, e62_296]; exact fin0 _ rfl rfl
  by_cases k43 : c = 43
  · subst k43
    rw [e62_35]; simp only [Int.reduceEq, if_false, if_true]
    rw [e62_174, if_pos W1, e62_296]; exact fin0 _ rfl rfl
  by_cases k45 : c = 45
  · subst k45
    rw [e62_35]; simp only [Int.reduceEq, if_false, if_true]
    rw [e62_184, if_pos W1, e62_296]; exact fin0 _ rfl rfl
  by_cases k47 : c = 47
  · subst k47
    rw [e62_35]; simp only [Int.reduceEq, if_false, if_true]
    rw [e62_204, if_pos W1, e62_296]; exact fin0 _ rfl rfl
  by_cases k61 : c = 61
  · subst k61
    rw [e62_35]; simp only [Int.reduceEq, if_false, if_true]
    rw [e62_214, if_pos W1, e62_296]; exact fin0 _ rfl rfl
  by_cases k60 : c = 60
  · subst k60
    rw [e62_35]; simp only [Int.reduceEq, if_false, if_true]
    obtain ⟨h2, a2, f2, g2, r2'⟩ := kq_63 rr 61 d
    rw [ht, one 61 (by decide)] at a2
    rw [ht] at r2'
    simp only [oneP 61 (by decide)] at r2'
    rw [e62_224, if_pos (F_a4 rr.1), Cl_eq _ a2]
    simp only [bI_e0]
    generalize lxX (tpC h) n (i + 1) = e at *
    by_cases q1 : e = 61
    · rw [if_neg (by simp [q1]), e62_258, if_pos (W_a4 r2'.1), e62_296]
      rw [if_pos q1] at r2'
      obtain ⟨p1, p2, p3⟩ := put h2 (-9) (i + 1 + 1) f2 g2 r2'
      exact ⟨_, rfl, p1, by rw [show lx2 60 e = 1 by unfold lx2; rw [if_pos (Or.inl ⟨rfl, Or.inl q1⟩)]]; exact p2, by rw [show lxS 60 e = -9 by unfold lxS; simp [q1]]; exact p3.1, p3.2⟩
    · rw [if_neg q1] at r2'
      have ht2 : tpC h2 = tpC h := (FrR_tp f2).trans ht
      obtain ⟨h3, a3, f3, g3, r3'⟩ := kq_63 r2' 62 d
      rw [ht2, one 62 (by decide)] at a3
      rw [ht2] at r3'
      simp only [oneP 62 (by decide)] at r3'
      rw [if_pos (by simp [q1]), e62_240, if_pos (F_a4 r2'.1), Cl_eq _ a3]
      simp only [bI_e0]
      by_cases q2 : e = 62
      · rw [if_neg (by simp [q2]), e62_258, if_pos (W_a4 r3'.1), e62_296]
        rw [if_pos q2] at r3'
        obtain ⟨p1, p2, p3⟩ := put h3 (-11) (i + 1 + 1) (FrR_tr f2 f3) (fun j e => (g3 j e).trans (g2 j e)) r3'
        exact ⟨_, rfl, p1, by rw [show lx2 60 e = 1 by unfold lx2; rw [if_pos (Or.inl ⟨rfl, Or.inr q2⟩)]]; exact p2, by rw [show lxS 60 e = -11 by unfold lxS; simp [q2]]; exact p3.1, p3.2⟩
      · rw [if_pos (by simp [q2]), e62_255, e62_258, if_pos (W_a4 r3'.1), e62_296]
        rw [if_neg q2] at r3'
        obtain ⟨p1, p2, p3⟩ := put h3 (-8) (i + 1) (FrR_tr f2 f3) (fun j e => (g3 j e).trans (g2 j e)) r3'
        exact ⟨_, rfl, p1, by rw [show lx2 60 e = 0 by unfold lx2; rw [if_neg (by simp [q1, q2])], Int.add_zero]; exact p2, by rw [show lxS 60 e = -8 by unfold lxS; simp [q1, q2]]; exact p3.1, p3.2⟩
  by_cases k62 : c = 62
  · subst k62
    rw [e62_35]; simp only [Int.reduceEq, if_false, if_true]
    obtain ⟨h2, a2, f2, g2, r2'⟩ := kq_63 rr 61 d
    rw [ht, one 61 (by decide)] at a2
    rw [ht] at r2'
    simp only [oneP 61 (by decide)] at r2'
    rw [e62_264, if_pos (F_a4 rr.1), Cl_eq _ a2]
    simp only [bI_e0]
    generalize lxX (tpC h) n (i + 1) = e at *
    by_cases q1 : e = 61
    · rw [if_neg (by simp [q1]), e62_283, if_pos (W_a4 r2'.1), e62_296]
      rw [if_pos q1] at r2'
      obtain ⟨p1, p2, p3⟩ := put h2 (-12) (i + 1 + 1) f2 g2 r2'
      exact ⟨_, rfl, p1, by rw [show lx2 62 e = 1 by unfold lx2; rw [if_pos (Or.inr ⟨rfl, q1⟩)]]; exact p2, by rw [show lxS 62 e = -12 by unfold lxS; simp [q1]]; exact p3.1, p3.2⟩
    · rw [if_neg q1] at r2'
      rw [if_pos (by simp [q1]), e62_280, e62_283, if_pos (W_a4 r2'.1), e62_296]
      obtain ⟨p1, p2, p3⟩ := put h2 (-13) (i + 1) f2 g2 r2'
      exact ⟨_, rfl, p1, by rw [show lx2 62 e = 0 by unfold lx2; rw [if_neg (by simp [q1])], Int.add_zero]; exact p2, by rw [show lxS 62 e = -13 by unfold lxS; simp [q1]]; exact p3.1, p3.2⟩
  rw [e62_35]
  simp only [k59, k40, k41, k42, k43, k45, k47, k60, k61, k62, if_false, ite_self]
  rw [e62_289, if_pos W1, e62_296]
  exact fin0 _ (by unfold lxS; simp [k59, k40, k41, k42, k43, k45, k47, k60, k61, k62]) (by unfold lx2; simp [k60, k62])
/-- the next token -/
theorem kq_58 (r : RdC h n i) (h5 : 0 ≤ ld h 4 5 ∧ ld h 4 5 ≤ 100000) (d : Nat) : ∃ h', C (d + 6) 58 [(2, 4)] h = some ((9, 0), h') ∧ FrR h h' ∧ RdC h' n (lTok (tpC h) n (lxP (tpC h) n i)).2 ∧ ld h' 4 3 = (lTok (tpC h) n (lxP (tpC h) n i)).1 ∧ ld h' 4 4 = lxP (tpC h) n i ∧ (0 ≤ ld h' 4 5 ∧ ld h' 4 5 ≤ 100000) ∧
    (lxP (tpC h) n i < n → clo (tpC h (lxP (tpC h) n i)) = true → ld h' 4 6 = lxL (tpC h) (lxP (tpC h) n i) (lxE clo (tpC h) n (lxP (tpC h) n i) - lxP (tpC h) n i).toNat (lxP (tpC h) n i) 0) ∧
    (lxP (tpC h) n i < n → clo (tpC h (lxP (tpC h) n i)) = false → cdg (tpC h (lxP (tpC h) n i)) = true → imin 10000 (ld h' 4 5) = lxN (tpC h) 0 (lxE cdg (tpC h) n (lxP (tpC h) n i) - lxP (tpC h) n i).toNat (lxP (tpC h) n i) 0) := by
  -- the token
  have p2 : ∀ (h1 : Hp) (k : Int), FrR h h1 → RdC h1 n k → (0 ≤ ld h1 4 5 ∧ ld h1 4 5 ≤ 100000) → ∃ h', V (d + 6) 58 52 [(2, 4)] [] h1 = some ((9, 0), h') ∧ FrR h h' ∧ RdC h' n (lTok (tpC h) n k).2 ∧ ld h' 4 3 = (lTok (tpC h) n k).1 ∧ ld h' 4 4 = k ∧ (0 ≤ ld h' 4 5 ∧ ld h' 4 5 ≤ 100000) ∧
    (k < n → clo (tpC h k) = true → ld h' 4 6 = lxL (tpC h) k (lxE clo (tpC h) n k - k).toNat k 0) ∧
    (k < n → clo (tpC h k) = false → cdg (tpC h k) = true → imin 10000 (ld h' 4 5) = lxN (tpC h) 0 (lxE cdg (tpC h) n k - k).toNat k 0) := by
    intro h1 k f1 r1 h51
    obtain ⟨w', r0', r1', rn', r2', ri'⟩ := id r1
    have f2 := FrR_st f1 (j := 4) (by decide) k
    have f2' : FrR h1 (st h1 4 4 k) := FrR_st (FrR_rf w') (j := 4) (by decide) k
    have g : ∀ j, j ≠ 4 → ld (st h1 4 4 k) 4 j = ld h1 4 j := fun j e => ld_st_ne (Or.inr e)
    have g4 : ld (st h1 4 4 k) 4 4 = k := ld_st_eq _ _ _ _
    have r2'' : RdC (st h1 4 4 k) n k := RdC_fr r1 f2' ((g 2 (by decide)).trans r2') ri'
    have ht : tpC (st h1 4 4 k) = tpC h := FrR_tp f2
    have h52 : 0 ≤ ld (st h1 4 4 k) 4 5 ∧ ld (st h1 4 4 k) 4 5 ≤ 100000 := by rw [g 5 (by decide)]; exact h51
    rw [e58_52, if_pos (F_a4 w'), if_pos (W_a4 w'), r2']
    generalize st h1 4 4 k = h2 at *
    obtain ⟨w2, q0, q1, qn, q2, qi⟩ := id r2''
    rw [if_pos (F_a4 w2), if_pos (F_a4 w2), q2, q1]
    unfold lTok
    by_cases hk : k < n
    · obtain ⟨c1, c2⟩ := rd_c r2'' hk
      have ec : ld h2 2 k = tpC h k := congrFun ht k
      rw [if_pos hk, if_neg (fun z => z hk), e58_81, if_pos (F_a4 w2), if_pos (F_a4 w2), q0, q2, if_pos c1, if_pos c2, ec]
      have nolow : clo (tpC h k) = false → ∃ h', V (d + 6) 58 116 [(2, 4)] [] h2 = some ((9, 0), h') ∧ FrR h h' ∧ RdC h' n (if clo (tpC h k) = true then (lxKW (tpC h) k (lxE clo (tpC h) n k), lxE clo (tpC h) n k) else if cdg (tpC h k) = true then (-4, lxE cdg (tpC h) n k) else (lxS (tpC h k) (lxX (tpC h) n (k + 1)), k + 1 + lx2 (tpC h k) (lxX (tpC h) n (k + 1)))).2 ∧ ld h' 4 3 = (if clo (tpC h k) = true then (lxKW (tpC h) k (lxE clo (tpC h) n k), lxE clo (tpC h) n k) else if cdg (tpC h k) = true then (-4, lxE cdg (tpC h) n k) else (lxS (tpC h k) (lxX (tpC h) n (k + 1)), k + 1 + lx2 (tpC h k) (lxX (tpC h) n (k + 1)))).1 ∧ ld h' 4 4 = k ∧ (0 ≤ ld h' 4 5 ∧ ld h' 4 5 ≤ 100000) ∧
          (k < n → clo (tpC h k) = true → ld h' 4 6 = lxL (tpC h) k (lxE clo (tpC h) n k - k).toNat k 0) ∧
          (k < n → clo (tpC h k) = false → cdg (tpC h k) = true → imin 10000 (ld h' 4 5) = lxN (tpC h) 0 (lxE cdg (tpC h) n k - k).toNat k 0) := fun hl => by
        rw [if_neg (by rw [hl]; decide), e58_116, if_pos (F_a4 w2), if_pos (F_a4 w2), q0, q2, if_pos c1, if_pos c2, ec]
        have nodig : cdg (tpC h k) = false → ∃ h', V (d + 6) 58 151 [(2, 4)] [] h2 = some ((9, 0), h') ∧ FrR h h' ∧ RdC h' n (if cdg (tpC h k) = true then (-4, lxE cdg (tpC h) n k) else (lxS (tpC h k) (lxX (tpC h) n (k + 1)), k + 1 + lx2 (tpC h k) (lxX (tpC h) n (k + 1)))).2 ∧ ld h' 4 3 = (if cdg (tpC h k) = true then (-4, lxE cdg (tpC h) n k) else (lxS (tpC h k) (lxX (tpC h) n (k + 1)), k + 1 + lx2 (tpC h k) (lxX (tpC h) n (k + 1)))).1 ∧ ld h' 4 4 = k ∧ (0 ≤ ld h' 4 5 ∧ ld h' 4 5 ≤ 100000) ∧
            (k < n → clo (tpC h k) = true → ld h' 4 6 = lxL (tpC h) k (lxE clo (tpC h) n k - k).toNat k 0) ∧
            (k < n → clo (tpC h k) = false → cdg (tpC h k) = true → imin 10000 (ld h' 4 5) = lxN (tpC h) 0 (lxE cdg (tpC h) n k - k).toNat k 0) := fun hd => by
          obtain ⟨h3, a3, f3, r3, x3, x4, x5, x6⟩ := kq_62 r2'' hk (d + 4)
          rw [ht] at r3 x3
          rw [if_neg (by rw [hd]; decide), e58_151, if_pos (F_a4 w2), Cl_eq _ a3, e58_155]
          exact ⟨h3, rfl, FrR_tr f2 f3, r3, x3, x4.trans g4, by rw [x5]; exact h52, fun _ z => absurd z (by rw [hl]; decide), fun _ _ z => absurd z (by rw [hd]; decide)⟩
        by_cases z1 : tpC h k < 48
        · rw [if_pos z1]; exact nodig (by unfold cdg; simp [z1])
        · rw [if_neg z1, e58_130, if_pos (F_a4 w2), if_pos (F_a4 w2), q0, q2, if_pos c1, if_pos c2, ec]
          by_cases z2 : 57 < tpC h k
          · rw [if_pos z2]; exact nodig (by unfold cdg; simp [z2])
          · have hd : cdg (tpC h k) = true := by unfold cdg; simp [z1, z2]
            obtain ⟨h3, a3, f3, r3, x3, x4, x6, x5, b1, b2⟩ := kq_61 r2'' (d + 4)
            rw [ht] at r3 x5
            rw [if_neg z2, e58_144, if_pos (F_a4 w2), Cl_eq _ a3, e58_155, if_pos hd]
            exact ⟨h3, rfl, FrR_tr f2 f3, r3, x3, x4.trans g4, ⟨b1, b2⟩, fun _ z => absurd z (by rw [hl]; decide), fun _ _ _ => x5⟩
      by_cases z1 : tpC h k < 97
      · rw [if_pos z1]; exact nolow (by unfold clo; simp [z1])
      · rw [if_neg z1, e58_95, if_pos (F_a4 w2), if_pos (F_a4 w2), q0, q2, if_pos c1, if_pos c2, ec]
        by_cases z2 : 122 < tpC h k
        · rw [if_pos z2]; exact nolow (by unfold clo; simp [z2])
        · have hl : clo (tpC h k) = true := by unfold clo; simp [z1, z2]
          obtain ⟨h3, a3, f3, r3, x3, x4, x5, x6⟩ := kq_59 r2'' g4 hk d
          rw [ht] at r3 x3 x6
          rw [if_neg z2, e58_109, if_pos (F_a4 w2), Cl_eq _ a3, e58_155, if_pos hl]
          exact ⟨h3, rfl, FrR_tr f2 f3, r3, x3, x4, by rw [x5]; exact h52, fun _ _ => x6, fun _ z => absurd z (by rw [hl]; decide)⟩
    · have f3 := FrR_st f2 (j := 3) (by decide) (-1)
      have g3 : ∀ j, j ≠ 3 → ld (st h2 4 3 (-1)) 4 j = ld h2 4 j := fun j e => ld_st_ne (Or.inr e)
      rw [if_neg hk, if_pos hk, e58_71, if_pos (W_a4 w2), e58_155]
      exact ⟨_, rfl, f3, RdC_fr r f3 ((g3 2 (by decide)).trans q2) qi, ld_st_eq _ _ _ _, (g3 4 (by decide)).trans g4, by rw [g3 5 (by decide)]; exact h52, fun z => absurd z hk, fun z => absurd z hk⟩
  -- the white space
  have p1 : ∀ (m : Nat) (k : Int) (h1 : Hp), FrR h h1 → RdC h1 n k → k + m = n → (0 ≤ ld h1 4 5 ∧ ld h1 4 5 ≤ 100000) → ∃ h2, V (d + 6) 58 0 [(2, 4)] [] h1 = V (d + 6) 58 52 [(2, 4)] [] h2 ∧ FrR h h2 ∧ RdC h2 n (lxr cws (tpC h) m k) ∧ (0 ≤ ld h2 4 5 ∧ ld h2 4 5 ≤ 100000) := by
    intro m
    induction m with
    | zero =>
      intro k h1 f1 r1 hk h51
      exact ⟨h1, by rw [e58_0, if_pos (F_a4 r1.1), if_pos (F_a4 r1.1), r1.2.2.2.2.1, r1.2.2.1, if_neg (by omega)], f1, r1, h51⟩
    | succ m ih =>
      intro k h1 f1 r1 hk h51
      have hkn : k < n := by omega
      obtain ⟨c1, c2⟩ := rd_c r1 hkn
      have ec : ld h1 2 k = tpC h k := congrFun (FrR_tp f1) k
      obtain ⟨w', r0', r1', rn', r2', ri'⟩ := id r1
      have go : cws (tpC h k) = true → ∃ h2, V (d + 6) 58 39 [(2, 4)] [] h1 = V (d + 6) 58 52 [(2, 4)] [] h2 ∧ FrR h h2 ∧ RdC h2 n (lxr cws (tpC h) (m + 1) k) ∧ (0 ≤ ld h2 4 5 ∧ ld h2 4 5 ≤ 100000) := fun z => by
        have f2 := FrR_st f1 (j := 2) (by decide) (k + 1)
        have e1 : lxr cws (tpC h) (m + 1) k = lxr cws (tpC h) m (k + 1) := if_pos z
        rw [e58_39, if_pos (F_a4 w'), if_pos (W_a4 w'), r2', w1 r1 hkn, e58_49, e1]
        exact ih (k + 1) _ f2 (RdC_fr r f2 (ld_st_eq _ _ _ _) (by omega)) (by omega) (by rw [ld_st_ne (Or.inr (by decide))]; exact h51)
      rw [e58_0, if_pos (F_a4 w'), if_pos (F_a4 w'), r2', r1', if_pos hkn, e58_11, if_pos (F_a4 w'), if_pos (F_a4 w'), r0', r2', if_pos c1, if_pos c2, ec]
      by_cases z1 : tpC h k = 10
      · rw [if_pos z1]; exact go (by unfold cws; simp [z1])
      · rw [if_neg z1, e58_25, if_pos (F_a4 w'), if_pos (F_a4 w'), r0', r2', if_pos c1, if_pos c2, ec]
        by_cases z2 : tpC h k = 32
        · rw [if_pos z2]; exact go (by unfold cws; simp [z2])
        · rw [if_neg z2]
          have e1 : lxr cws (tpC h) (m + 1) k = k := if_neg (by unfold cws; simp [z1, z2])
          rw [e1]; exact ⟨h1, rfl, f1, r1, h51⟩
  obtain ⟨h2, a2, f2, r2', b2⟩ := p1 (n - i).toNat i h (FrR_rf r.1) r (by have := r.2.2.2.2.2; omega) h5
  rw [ce_58, a2]
  exact p2 h2 _ f2 r2' b2
end SI
