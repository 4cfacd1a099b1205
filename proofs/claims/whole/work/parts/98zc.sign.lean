/-! layer 2: the plain program reads a token -/
def sgq (c : Int) : Bool := decide (c = 59) || decide (c = 40) || decide (c = 41) || decide (c = 43) || decide (c = 45) || decide (c = 42) || decide (c = 47) || decide (c = 60) || decide (c = 61) || decide (c = 62)
def sgv (c e : Int) : Int := if c = 60 then (if e = 61 then 256 else if e = 62 then 257 else 60) else if c = 62 then (if e = 61 then 258 else 62) else c
section SG2
variable {h h' : Hp} {tp : Int → Int} {n i : Int}
theorem rk_142 (c : RC h tp n i) (hi : i < n) (d : Nat) : ∃ h', C (d + 1) 142 [(2, 311), (0, tp i)] h = some ((9, 0), h') ∧ FrL h h' ∧ RC h' tp n (i + 1 + lx2 (tp i) (lxX tp n (i + 1))) ∧ ld h' 311 28 = (if sgq (tp i) = true then 3 else 5) ∧ ld h' 311 29 = sgv (tp i) (lxX tp n (i + 1)) ∧ ld h' 311 27 = ld h 311 27 := by
  obtain ⟨w, ht, e25, hn, e26, hi0⟩ := id c
  have hc := (ht i hi0.1 (by omega)).2
  generalize hcc : tp i = k at *
  generalize hee : lxX tp n (i + 1) = e
  have f1 := RC_in c
  have c1 : RC (st h 311 26 (i + 1)) tp n (i + 1) := RC_fr c f1 (ld_st_eq _ _ _ _) ⟨by omega, by omega⟩
  have e10 : V (d + 1) 142 10 [(2, 311), (0, k)] [] (st h 311 26 (i + 1)) = V (d + 1) 142 76 [(2, 311), (0, k)] [(0, if sgq k = true then 3 else 5), (2, 311)] (st h 311 26 (i + 1)) := by
    have e71 : ∀ h1, V (d + 1) 142 71 [(2, 311), (0, k)] [(2, 311)] h1 = V (d + 1) 142 76 [(2, 311), (0, k)] [(0, 3), (2, 311)] h1 := fun h1 => by rw [e142_71]
    have yes : sgq k = true → V (d + 1) 142 71 [(2, 311), (0, k)] [(2, 311)] (st h 311 26 (i + 1)) = V (d + 1) 142 76 [(2, 311), (0, k)] [(0, if sgq k = true then 3 else 5), (2, 311)] (st h 311 26 (i + 1)) := fun q => by rw [e71, if_pos q]
    rw [e142_10]
    by_cases a1 : k = 59
    · rw [if_pos a1]; exact yes (by unfold sgq; simp [a1])
    by_cases a2 : k = 40
    · rw [if_neg a1, if_pos a2]; exact yes (by unfold sgq; simp [a2])
    by_cases a3 : k = 41
    · rw [if_neg a1, if_neg a2, if_pos a3]; exact yes (by unfold sgq; simp [a3])
    by_cases a4 : k = 43
    · rw [if_neg a1, if_neg a2, if_neg a3, if_pos a4]; exact yes (by unfold sgq; simp [a4])
    rw [if_neg a1, if_neg a2, if_neg a3, if_neg a4, e142_35]
    by_cases a5 : k = 45
    · rw [if_pos a5]; exact yes (by unfold sgq; simp [a5])
    by_cases a6 : k = 42
    · rw [if_neg a5, if_pos a6]; exact yes (by unfold sgq; simp [a6])
    by_cases a7 : k = 47
    · rw [if_neg a5, if_neg a6, if_pos a7]; exact yes (by unfold sgq; simp [a7])
    by_cases a8 : k = 60
    · rw [if_neg a5, if_neg a6, if_neg a7, if_pos a8]; exact yes (by unfold sgq; simp [a8])
    rw [if_neg a5, if_neg a6, if_neg a7, if_neg a8, e142_59]
    by_cases a9 : k = 61
    · rw [if_pos a9]; exact yes (by unfold sgq; simp [a9])
    by_cases aa : k = 62
    · rw [if_neg a9, if_pos aa]; exact yes (by unfold sgq; simp [aa])
    rw [if_neg a9, if_neg aa, e142_75, if_neg (show ¬ sgq k = true by unfold sgq; simp [a1, a2, a3, a4, a5, a6, a7, a8, a9, aa])]
  generalize hs : (if sgq k = true then (3 : Int) else 5) = s at *
  have f2 := FrL_st f1.1 (j := 28) (by decide) s
  have f3 := FrL_st f2.1 (j := 29) (by decide) k
  have c3 : RC (st (st (st h 311 26 (i + 1)) 311 28 s) 311 29 k) tp n (i + 1) := RC_fr c1 (FrL_tr f2 f3) ((ld_st_ne (Or.inr (by decide))).trans ((ld_st_ne (Or.inr (by decide))).trans (ld_st_eq _ _ _ _))) ⟨by omega, by omega⟩
  have g28 : ld (st (st (st h 311 26 (i + 1)) 311 28 s) 311 29 k) 311 28 = s := (ld_st_ne (Or.inr (by decide))).trans (ld_st_eq _ _ _ _)
  have g27 : ld (st (st (st h 311 26 (i + 1)) 311 28 s) 311 29 k) 311 27 = ld h 311 27 := (ld_st_ne (Or.inr (by decide))).trans ((ld_st_ne (Or.inr (by decide))).trans (ld_st_ne (Or.inr (by decide))))
  have g29 : ld (st (st (st h 311 26 (i + 1)) 311 28 s) 311 29 k) 311 29 = k := ld_st_eq _ _ _ _
  have f13 := FrL_tr f1 (FrL_tr f2 f3)
  have e0 : C (d + 1) 142 [(2, 311), (0, k)] h = if k = 60 then V (d + 1) 142 90 [(2, 311), (0, k)] [] (st (st (st h 311 26 (i + 1)) 311 28 s) 311 29 k) else V (d + 1) 142 106 [(2, 311), (0, k)] [] (st (st (st h 311 26 (i + 1)) 311 28 s) 311 29 k) := by
    rw [ce_142, e142_0, if_pos (F_a311 w), e26, if_pos (W_a311 w), show w32 (i + 1) = i + 1 by unfold w32; omega, e10, e142_76, if_pos (W_a311 f1.1), if_pos (W_a311 f2.1)]
  rw [e0]
  generalize st (st (st h 311 26 (i + 1)) 311 28 s) 311 29 k = h3 at *
  have w3 := c3.1
  have r3 := rk_138 c3 d
  rw [hee] at r3
  -- what is left to do when the value stands
  have fin : ∀ (h4 : Hp) (v x : Int), FrL h3 h4 → RC h4 tp n (i + 1) → ld h4 311 28 = s → ld h4 311 27 = ld h 311 27 → ld h4 311 29 = v → (if v < 256 then 0 else 1) = x → (x = 1 → i + 1 < n) → ∃ h', V (d + 1) 142 150 [(2, 311), (9, 0)] [] h4 = some ((9, 0), h') ∧ FrL h h' ∧ RC h' tp n (i + 1 + x) ∧ ld h' 311 28 = s ∧ ld h' 311 29 = v ∧ ld h' 311 27 = ld h 311 27 := fun h4 v x f4 c4 a28 a27 a29 hx hx1 => by
    have w4 := c4.1
    rw [e142_150, if_pos (F_a311 w4), a29]
    by_cases y : v < 256
    · rw [if_pos y] at hx
      rw [if_pos y, e142_170, ← hx, Int.add_zero]
      exact ⟨h4, rfl, FrL_tr f13 f4, c4, a28, a29, a27⟩
    · rw [if_neg y] at hx
      have f5 := RC_in c4
      rw [if_neg y, if_pos (F_a311 w4), c4.2.2.2.2.1, if_pos (W_a311 w4), show w32 (i + 1 + 1) = i + 1 + 1 by unfold w32; omega, e142_170, ← hx]
      exact ⟨_, rfl, FrL_tr f13 (FrL_tr f4 f5), RC_fr c4 f5 (ld_st_eq _ _ _ _) ⟨by omega, by have := hx1 hx.symm; omega⟩, (ld_st_ne (Or.inr (by decide))).trans a28, (ld_st_ne (Or.inr (by decide))).trans a29, (ld_st_ne (Or.inr (by decide))).trans a27⟩
  have sto : ∀ (v : Int), 255 < v → i + 1 < n → ∃ h', V (d + 1) 142 150 [(2, 311), (9, 0)] [] (st h3 311 29 v) = some ((9, 0), h') ∧ FrL h h' ∧ RC h' tp n (i + 1 + 1) ∧ ld h' 311 28 = s ∧ ld h' 311 29 = v ∧ ld h' 311 27 = ld h 311 27 := fun v hv hn1 => by
    have f4 := FrL_st w3 (j := 29) (by decide) v
    exact fin _ v 1 f4 (RC_fr c3 f4 ((ld_st_ne (Or.inr (by decide))).trans c3.2.2.2.2.1) ⟨by omega, by omega⟩) ((ld_st_ne (Or.inr (by decide))).trans g28) ((ld_st_ne (Or.inr (by decide))).trans g27) (ld_st_eq _ _ _ _) (by rw [if_neg (by omega)]) (fun _ => hn1)
  have nx : e = 61 ∨ e = 62 → i + 1 < n := fun u => by
    unfold lxX at hee
    by_cases y : i + 1 < n
    · exact y
    · rw [if_neg y] at hee; omega
  have plain : lx2 k e = 0 → sgv k e = k → ∃ h', V (d + 1) 142 150 [(2, 311), (9, 0)] [] h3 = some ((9, 0), h') ∧ FrL h h' ∧ RC h' tp n (i + 1 + lx2 k e) ∧ ld h' 311 28 = s ∧ ld h' 311 29 = sgv k e ∧ ld h' 311 27 = ld h 311 27 := fun u1 u2 => by
    rw [u1, u2]
    exact fin h3 k 0 (FrL_rf w3) c3 g28 g27 g29 (by rw [if_pos (by omega)]) (fun u => absurd u (by decide))
  have r4 : ∀ v, C d 138 [(2, 311)] (st h3 311 29 v) = some ((0, e), st h3 311 29 v) := fun v => by
    have f4 := FrL_st w3 (j := 29) (by decide) v
    have := rk_138 (RC_fr c3 f4 ((ld_st_ne (Or.inr (by decide))).trans c3.2.2.2.2.1) ⟨by omega, by omega⟩) d
    rw [hee] at this; exact this
  have w4 : ∀ v, WF (st h3 311 29 v) := fun v => (FrL_st w3 (j := 29) (by decide) v).1
  by_cases k60 : k = 60
  · rw [if_pos k60, e142_90, if_pos (F_a311 w3), Cl_eq _ r3]
    by_cases q1 : e = 61
    · rw [if_pos q1, if_pos (W_a311 w3), e142_106, if_pos k60, if_pos (F_a311 (w4 _)), Cl_eq _ (r4 _), if_neg (by omega), e142_128, if_neg (by omega), show lx2 k e = 1 by unfold lx2; rw [if_pos (by omega)], show sgv k e = 256 by unfold sgv; rw [if_pos k60, if_pos q1]]
      exact sto 256 (by decide) (nx (Or.inl q1))
    · rw [if_neg q1, e142_106, if_pos k60, if_pos (F_a311 w3), Cl_eq _ r3]
      by_cases q2 : e = 62
      · rw [if_pos q2, e142_121, if_pos (W_a311 w3), e142_128, if_neg (by omega), show lx2 k e = 1 by unfold lx2; rw [if_pos (by omega)], show sgv k e = 257 by unfold sgv; rw [if_pos k60, if_neg q1, if_pos q2]]
        exact sto 257 (by decide) (nx (Or.inr q2))
      · rw [if_neg q2, e142_128, if_neg (by omega)]
        exact plain (by unfold lx2; rw [if_neg (by omega)]) (by unfold sgv; rw [if_pos k60, if_neg q1, if_neg q2, k60])
  · rw [if_neg k60, e142_106, if_neg k60, e142_128]
    by_cases k62 : k = 62
    · rw [if_pos k62, if_pos (F_a311 w3), Cl_eq _ r3]
      by_cases q1 : e = 61
      · rw [if_pos q1, e142_143, if_pos (W_a311 w3), show lx2 k e = 1 by unfold lx2; rw [if_pos (by omega)], show sgv k e = 258 by unfold sgv; rw [if_neg k60, if_pos k62, if_pos q1]]
        exact sto 258 (by decide) (nx (Or.inl q1))
      · rw [if_neg q1]
        exact plain (by unfold lx2; rw [if_neg (by omega)]) (by unfold sgv; rw [if_neg k60, if_pos k62, if_neg q1, k62])
    · rw [if_neg k62]
      exact plain (by unfold lx2; rw [if_neg (by omega)]) (by unfold sgv; rw [if_neg k60, if_neg k62])
end SG2
