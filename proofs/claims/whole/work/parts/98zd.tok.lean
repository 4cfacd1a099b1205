/-! layer 2: the plain program's tokens -/
def svt (t : Int) : Int := if t = -5 then 59 else if t = -6 then 40 else if t = -7 then 41 else if t = -14 then 43 else if t = -15 then 45 else if t = -16 then 42 else if t = -17 then 47 else if t = -10 then 61 else if t = -9 then 256 else if t = -11 then 257 else if t = -8 then 60 else if t = -12 then 258 else 62
def LSx (tp : Int → Int) (n pl t so va : Int) : Prop := (t = -1 ∧ so = 4) ∨ (t = -3 ∧ so = 1 ∧ va = wL tp n pl) ∨ (t = -4 ∧ so = 2 ∧ imin 10000 va = wN tp n pl ∧ 0 ≤ va) ∨ (t = -2 ∧ so = 5) ∨ ((-17 ≤ t ∧ t ≤ -5) ∧ so = 3 ∧ va = svt t) ∨ ((-38 ≤ t ∧ t ≤ -18) ∧ so = 0 ∧ va = rwi (-1 - t))
theorem sg_LS {tp : Int → Int} {n pl c e : Int} : LSx tp n pl (lxS c e) (if sgq c = true then 3 else 5) (sgv c e) := by
  by_cases a1 : c = 59
  · rw [a1, show lxS 59 e = -5 from rfl]; exact Or.inr (Or.inr (Or.inr (Or.inr (Or.inl ⟨⟨by decide, by decide⟩, rfl, rfl⟩))))
  by_cases a2 : c = 40
  · rw [a2, show lxS 40 e = -6 from rfl]; exact Or.inr (Or.inr (Or.inr (Or.inr (Or.inl ⟨⟨by decide, by decide⟩, rfl, rfl⟩))))
  by_cases a3 : c = 41
  · rw [a3, show lxS 41 e = -7 from rfl]; exact Or.inr (Or.inr (Or.inr (Or.inr (Or.inl ⟨⟨by decide, by decide⟩, rfl, rfl⟩))))
  by_cases a4 : c = 43
  · rw [a4, show lxS 43 e = -14 from rfl]; exact Or.inr (Or.inr (Or.inr (Or.inr (Or.inl ⟨⟨by decide, by decide⟩, rfl, rfl⟩))))
  by_cases a5 : c = 45
  · rw [a5, show lxS 45 e = -15 from rfl]; exact Or.inr (Or.inr (Or.inr (Or.inr (Or.inl ⟨⟨by decide, by decide⟩, rfl, rfl⟩))))
  by_cases a6 : c = 42
  · rw [a6, show lxS 42 e = -16 from rfl]; exact Or.inr (Or.inr (Or.inr (Or.inr (Or.inl ⟨⟨by decide, by decide⟩, rfl, rfl⟩))))
  by_cases a7 : c = 47
  · rw [a7, show lxS 47 e = -17 from rfl]; exact Or.inr (Or.inr (Or.inr (Or.inr (Or.inl ⟨⟨by decide, by decide⟩, rfl, rfl⟩))))
  by_cases a9 : c = 61
  · rw [a9, show lxS 61 e = -10 from rfl]; exact Or.inr (Or.inr (Or.inr (Or.inr (Or.inl ⟨⟨by decide, by decide⟩, rfl, rfl⟩))))
  by_cases a8 : c = 60
  · rw [a8]
    refine Or.inr (Or.inr (Or.inr (Or.inr (Or.inl ?_))))
    unfold lxS sgv
    rw [if_neg (by decide), if_neg (by decide), if_neg (by decide), if_neg (by decide), if_neg (by decide), if_neg (by decide), if_neg (by decide), if_neg (by decide), if_pos rfl, if_pos rfl]
    by_cases q1 : e = 61
    · rw [if_pos q1, if_pos q1]; exact ⟨⟨by decide, by decide⟩, rfl, rfl⟩
    by_cases q2 : e = 62
    · rw [if_neg q1, if_pos q2, if_neg q1, if_pos q2]; exact ⟨⟨by decide, by decide⟩, rfl, rfl⟩
    · rw [if_neg q1, if_neg q2, if_neg q1, if_neg q2]; exact ⟨⟨by decide, by decide⟩, rfl, rfl⟩
  by_cases aa : c = 62
  · rw [aa]
    refine Or.inr (Or.inr (Or.inr (Or.inr (Or.inl ?_))))
    rw [show lxS 62 e = (if e = 61 then -12 else -13) from rfl, show sgv 62 e = (if e = 61 then 258 else 62) from rfl]
    by_cases q1 : e = 61
    · rw [if_pos q1, if_pos q1]; exact ⟨⟨by decide, by decide⟩, rfl, rfl⟩
    · rw [if_neg q1, if_neg q1]; exact ⟨⟨by decide, by decide⟩, rfl, rfl⟩
  refine Or.inr (Or.inr (Or.inr (Or.inl ⟨?_, ?_⟩)))
  · unfold lxS
    rw [if_neg a1, if_neg a2, if_neg a3, if_neg a4, if_neg a5, if_neg a6, if_neg a7, if_neg a9, if_neg a8, if_neg aa]
  · rw [if_neg (show ¬ sgq c = true by unfold sgq; simp [a1, a2, a3, a4, a5, a6, a7, a8, a9, aa])]
section TO
variable {h h' : Hp} {tp : Int → Int} {n i : Int}
theorem rk_144 (c : RC h tp n i) {pl : Int} {L : Nat} (h27 : ld h 311 27 = pl) (h26 : i = pl + (L : Int)) (p0 : 0 ≤ pl) (hc : ∀ x : Nat, x < L → 1 ≤ tp (pl + (x : Int)) - 96 ∧ tp (pl + (x : Int)) - 96 ≤ 26) (d : Nat) : ∃ h', C d 144 [(2, 311)] h = some ((9, 0), h') ∧ FrL h h' ∧ RC h' tp n i ∧ ld h' 311 29 = hw tp pl L 6 ∧ ∀ j, j ≠ 29 → ld h' 311 j = ld h 311 j := by
  obtain ⟨w, ht, e25, hn, e26, hi0⟩ := id c
  have key : ∀ (m x : Nat) (h1 : Hp), x + m = 6 → FrL h h1 → (∀ j, j ≠ 29 → ld h1 311 j = ld h 311 j) → ld h1 311 29 = hw tp pl L x → ∃ h', V d 144 7 [(2, 311), (0, (x : Int))] [] h1 = some ((9, 0), h') ∧ FrL h h' ∧ ld h' 311 29 = hw tp pl L 6 ∧ ∀ j, j ≠ 29 → ld h' 311 j = ld h 311 j := by
    intro m
    induction m with
    | zero =>
      intro x h1 hx f g e29
      exact ⟨h1, by rw [e144_7, if_neg (by omega), e144_63], f, by rw [e29, show x = 6 by omega], g⟩
    | succ m ih =>
      intro x h1 hx f g e29
      have w1 := f.1
      have b := hw_b hc x
      have px : p32 x ≤ 33554432 := by
        have : x = 0 ∨ x = 1 ∨ x = 2 ∨ x = 3 ∨ x = 4 ∨ x = 5 := by omega
        obtain ⟨q0, q1, q2, q3, q4, q5, q6⟩ := p32_6
        rcases this with rfl | rfl | rfl | rfl | rfl | rfl <;> omega
      have l : 0 ≤ lc tp pl L x ∧ lc tp pl L x ≤ 31 := by
        unfold lc
        split
        · rename_i q; have := hc x q; omega
        · omega
      have sh : shl32 (hw tp pl L x) 5 = 32 * hw tp pl L x := by
        unfold shl32
        rw [show ((5 : Int) % 32).toNat = 5 by decide, show ((2 : Int) ^ 5) = 32 by decide]
        unfold w32; omega
      have orr : or32 (32 * hw tp pl L x) (lc tp pl L x) = hw tp pl L (x + 1) := by
        have := orS (a := hw tp pl L x) (b := lc tp pl L x) 5 b.1 ⟨l.1, by rw [show ((2 ^ 5 : Nat) : Int) = 32 by decide]; omega⟩ (by rw [show ((2 ^ 5 : Nat) : Int) = 32 by decide]; omega)
        rw [show ((2 ^ 5 : Nat) : Int) = 32 by decide] at this
        exact this
      have e53 : V d 144 7 [(2, 311), (0, (x : Int))] [] h1 = V d 144 53 [(2, 311), (0, (x : Int))] [(0, lc tp pl L x), (0, 32 * hw tp pl L x), (2, 311)] h1 := by
        rw [e144_7, if_pos (by omega), if_pos (F_a311 w1), e29, sh, if_pos (F_a311 w1), if_pos (F_a311 w1), g 27 (by decide), g 26 (by decide), h27, e26, h26]
        unfold lc
        by_cases q : x < L
        · have hc1 := hc x q
          have t := ht (pl + (x : Int)) (by omega) (by omega)
          have t312 : ld h1 312 (pl + (x : Int)) = tp (pl + (x : Int)) := (f.2.2 312 _ (by omega)).trans t.1
          rw [show w32 (pl + (x : Int)) = pl + (x : Int) by unfold w32; omega, if_pos (by omega), if_pos (F_a311 w1), P_311_1 w1, if_pos (F_a311 w1), if_pos (F_a312 w1), L_a312 w1, if_pos (by omega), t312, if_pos q, show w32 (w32 (tp (pl + (x : Int)) - 97) + 1) = tp (pl + (x : Int)) - 96 by rw [show w32 (tp (pl + (x : Int)) - 97) = tp (pl + (x : Int)) - 97 by unfold w32; omega]; unfold w32; omega]
        · rw [show w32 (pl + (x : Int)) = pl + (x : Int) by unfold w32; omega, if_neg (by omega), e144_52, if_neg q]
      have f2 := FrL_st w1 (j := 29) (by decide) (hw tp pl L (x + 1))
      rw [e53, e144_53, if_pos (W_a311 w1), orr, show w32 ((x : Int) + 1) = ((x + 1 : Nat) : Int) by unfold w32; omega]
      exact ih (x + 1) _ (by omega) (FrL_tr f f2) (fun j hj => (ld_st_ne (Or.inr hj)).trans (g j hj)) (ld_st_eq _ _ _ _)
  have f0 := FrL_st w (j := 29) (by decide) 0
  obtain ⟨h', a1, a2, a3, a4⟩ := key 6 0 _ (by omega) f0 (fun j hj => ld_st_ne (Or.inr hj)) (ld_st_eq _ _ _ _)
  refine ⟨h', ?_, a2, RC_fr c a2 ((a4 26 (by decide)).trans e26) hi0, a3, a4⟩
  rw [ce_144, e144_0, if_pos (W_a311 w)]
  exact a1
theorem lxr_all {p : Int → Bool} : ∀ (m : Nat) (i j : Int), i ≤ j → j < lxr p tp m i → p (tp j) = true
  | 0, i, j, h0, h1 => by unfold lxr at h1; omega
  | m + 1, i, j, h0, h1 => by
    unfold lxr at h1
    cases q : p (tp i) with
    | false => rw [q, if_neg (by decide)] at h1; omega
    | true =>
      rw [q, if_pos rfl] at h1
      by_cases y : j = i
      · rw [y]; exact q
      · exact lxr_all m (i + 1) j (by omega) h1
theorem rk_141 (c : RC h tp n i) (d : Nat) : ∃ h', C (d + 5) 141 [(2, 311)] h = some ((9, 0), h') ∧ FrL h h' ∧ RC h' tp n (lTok tp n (lxP tp n i)).2 ∧ ld h' 311 27 = lxP tp n i ∧ LSx tp n (lxP tp n i) (tkn tp n (lxP tp n i)) (ld h' 311 28) (ld h' 311 29) := by
  have hi0 := c.2.2.2.2.2
  obtain ⟨h1, a1, f1, c1, -⟩ := lex_ws (d + 4) (n - i).toNat i h c (by omega)
  have ep : lxr cws tp (n - i).toNat i = lxP tp n i := rfl
  rw [ep] at c1
  generalize lxP tp n i = p at *
  obtain ⟨w1, ht, e25, hn, e26, hp⟩ := id c1
  have f2 := FrL_st w1 (j := 27) (by decide) p
  have c2 : RC (st h1 311 27 p) tp n p := RC_fr c1 f2 ((ld_st_ne (Or.inr (by decide))).trans e26) hp
  have g27 : ld (st h1 311 27 p) 311 27 = p := ld_st_eq _ _ _ _
  have w2 := c2.1
  have e44 : C (d + 5) 141 [(2, 311)] h = V (d + 5) 141 44 [(2, 311), (0, lxX tp n p)] [] (st h1 311 27 p) := by
    rw [ce_141, a1, e141_31, if_pos (F_a311 w1), e26, if_pos (W_a311 w1), if_pos (F_a311 w2), Cl_eq _ (rk_138 c2 (d + 4))]
  rw [e44]
  have f12 := FrL_tr f1 f2
  generalize st h1 311 27 p = h2 at *
  have e226 : ∀ h5, V (d + 5) 141 226 [(9, 0), (9, 0)] [] h5 = some ((9, 0), h5) := fun h5 => by rw [e141_226]
  unfold tkn lTok
  by_cases q : p < n
  · have ex : lxX tp n p = tp p := by unfold lxX; rw [if_pos q]
    have htp := ht p hp.1 (by omega)
    rw [if_neg (show ¬ ¬ p < n from fun u => u q), ex, e141_44, if_neg (by omega), e141_57, Cl_eq _ (rk_139 h2 (tp p) (d + 4))]
    cases ql : clo (tp p) with
    | true =>
      rw [if_neg (by decide), if_pos rfl]
      obtain ⟨h3, b1, f3, c3, g3⟩ := lex_lo (d + 4) (n - p).toNat p h2 c2 (by omega)
      have ee : lxr clo tp (n - p).toNat p = lxE clo tp n p := rfl
      have hE := lxr_all (tp := tp) (p := clo) (n - p).toNat p
      have one : p + 1 ≤ lxE clo tp n p := by
        show p + 1 ≤ lxr clo tp (n - p).toNat p
        rw [show (n - p).toNat = (n - p - 1).toNat + 1 by omega]
        unfold lxr
        rw [ql, if_pos rfl]
        exact (lxr_b _ _ _ _).1
      rw [ee] at c3 hE
      have hwL : wL tp n p = lxL tp p (lxE clo tp n p - p).toNat p 0 := rfl
      unfold lxKW
      generalize lxE clo tp n p = E at *
      obtain ⟨w3, ht3, e253, hn3, e263, hp3⟩ := id c3
      have k27 : ld h3 311 27 = p := (g3 27 (by decide)).trans g27
      have r143 := rk_143 w3 (tp := tp) (pl := p) (at_ := E) (fun j j0 j1 => (ht3 j j0 j1).1) k27 e263 ⟨hp.1, by omega, by omega⟩ d
      rw [kw_ref (by omega)] at r143
      have kb := kwO_b tp p (E - p) (by omega)
      generalize kwO tp p (E - p) = o at *
      have f4 := FrL_st w3 (j := 29) (by decide) (if o = -1 then -1 else rwi o)
      have w4 := f4.1
      have k26 : ld (st h3 311 29 (if o = -1 then -1 else rwi o)) 311 26 = E := (ld_st_ne (Or.inr (by decide))).trans e263
      have k274 : ld (st h3 311 29 (if o = -1 then -1 else rwi o)) 311 27 = p := (ld_st_ne (Or.inr (by decide))).trans k27
      have k29 : ld (st h3 311 29 (if o = -1 then -1 else rwi o)) 311 29 = (if o = -1 then -1 else rwi o) := ld_st_eq _ _ _ _
      have e87 : V (d + 5) 141 87 [(2, 311), (9, 0)] [] h3 = if (if o = -1 then -1 else rwi o) = -1 then V (d + 5) 141 108 [(2, 311), (9, 0)] [(2, 311)] (st h3 311 29 (if o = -1 then -1 else rwi o)) else V (d + 5) 141 127 [(2, 311), (9, 0)] [(0, 0), (2, 311)] (st h3 311 29 (if o = -1 then -1 else rwi o)) := by
        rw [e141_87, if_pos (F_a311 w3), Cl_eq _ r143, if_pos (W_a311 w3), if_pos (F_a311 w4), k29]
      rw [b1, e87]
      have c4 : RC (st h3 311 29 (if o = -1 then -1 else rwi o)) tp n E := RC_fr c3 f4 k26 ⟨by omega, hp3.2⟩
      have f14 := FrL_tr f12 (FrL_tr f3 f4)
      generalize hh4 : st h3 311 29 (if o = -1 then -1 else rwi o) = h4 at *
      have st28 : ∀ s : Int, FrL h4 (st h4 311 28 s) ∧ RC (st h4 311 28 s) tp n E ∧ ld (st h4 311 28 s) 311 28 = s ∧ ld (st h4 311 28 s) 311 27 = p ∧ ld (st h4 311 28 s) 311 29 = ld h4 311 29 := fun s => by
        have f5 := FrL_st w4 (j := 28) (by decide) s
        exact ⟨f5, RC_fr c4 f5 ((ld_st_ne (Or.inr (by decide))).trans k26) ⟨by omega, hp3.2⟩, ld_st_eq _ _ _ _, (ld_st_ne (Or.inr (by decide))).trans k274, ld_st_ne (Or.inr (by decide))⟩
      rcases kb with k1 | k1
      · rw [if_pos (show (if o = -1 then -1 else rwi o) = -1 by rw [if_pos k1]), if_pos k1, e141_108, if_pos (F_a311 w4), if_pos (F_a311 w4), k26, k274, show w32 (E - p) = E - p by unfold w32; omega]
        by_cases q6 : 6 < E - p
        · obtain ⟨f5, c5, s1, s2, s3⟩ := st28 5
          rw [if_pos q6, if_pos q6, e141_127, if_pos (W_a311 w4), if_pos (F_a311 c5.1), s1, if_neg (by decide), e226]
          exact ⟨_, rfl, FrL_tr f14 f5, c5, s2, Or.inr (Or.inr (Or.inr (Or.inl ⟨rfl, s1⟩)))⟩
        · obtain ⟨f5, c5, s1, s2, s3⟩ := st28 1
          have hlet : ∀ x : Nat, x < (E - p).toNat → 1 ≤ tp (p + (x : Int)) - 96 ∧ tp (p + (x : Int)) - 96 ≤ 26 := fun x hx => by
            have := hE (p + (x : Int)) (by omega) (by omega)
            unfold clo at this
            simp only [Bool.and_eq_true, Bool.not_eq_true', decide_eq_false_iff_not] at this
            omega
          obtain ⟨h6, x1, x2, x3, x4, x5⟩ := rk_144 c5 (pl := p) (L := (E - p).toNat) s2 (by omega) hp.1 hlet (d + 4)
          rw [if_neg q6, if_neg q6, e141_126, e141_127, if_pos (W_a311 w4), if_pos (F_a311 c5.1), s1, if_pos rfl, e141_138, if_pos (F_a311 c5.1), Cl_eq _ x1, e226]
          exact ⟨h6, rfl, FrL_tr f14 (FrL_tr f5 x2), x3, (x5 27 (by decide)).trans s2, Or.inr (Or.inl ⟨rfl, (x5 28 (by decide)).trans s1, by rw [x4, hwL, lxL_6 (by omega) hlet]⟩)⟩
      · have t := of_decide_eq_true (List.all_eq_true.mp ri_tb o.toNat (List.mem_range.mpr (by omega))) (by omega)
        rw [show ((o.toNat : Nat) : Int) = o by omega] at t
        obtain ⟨f5, c5, s1, s2, s3⟩ := st28 0
        have no : ¬ o = -1 := by omega
        rw [if_neg (show ¬ (if o = -1 then -1 else rwi o) = -1 by rw [if_neg no]; omega), if_neg no, e141_127, if_pos (W_a311 w4), if_pos (F_a311 c5.1), s1, if_neg (by decide), e226]
        refine ⟨_, rfl, FrL_tr f14 f5, c5, s2, Or.inr (Or.inr (Or.inr (Or.inr (Or.inr ⟨by show -38 ≤ -1 - o ∧ -1 - o ≤ -18; omega, s1, ?_⟩))))⟩
        rw [s3, k29, if_neg no]
        show rwi o = rwi (-1 - (-1 - o))
        rw [show -1 - (-1 - o) = o by omega]
    | false =>
      rw [if_pos bI_f, if_neg (by decide), e141_145, Cl_eq _ (rk_140 h2 (tp p) (d + 4))]
      cases qd : cdg (tp p) with
      | true =>
        have f3 := FrL_st w2 (j := 28) (by decide) 2
        have f4 := FrL_st f3.1 (j := 29) (by decide) 0
        have c4 := RC_fr c2 (FrL_tr f3 f4) ((ld_st_ne (Or.inr (by decide))).trans ((ld_st_ne (Or.inr (by decide))).trans c2.2.2.2.2.1)) hp
        obtain ⟨h5, v', b1, f5, c5, ⟨b2, b3, b4⟩, b5⟩ := lex_dg (d + 4) (n - p).toNat p 0 _ c4 (by omega) (ld_st_eq _ _ _ _) ⟨by decide, by decide⟩
        rw [if_neg (by decide), if_pos rfl, if_pos (W_a311 w2), e141_157, if_pos (W_a311 f3.1), b1]
        refine ⟨h5, rfl, FrL_tr f12 (FrL_tr f3 (FrL_tr f4 f5)), c5, ?_, Or.inr (Or.inr (Or.inl ⟨rfl, ?_, ?_, by omega⟩))⟩
        · rw [b5 27 (by decide) (by decide), ld_st_ne (Or.inr (by decide)), ld_st_ne (Or.inr (by decide)), g27]
        · rw [b5 28 (by decide) (by decide), ld_st_ne (Or.inr (by decide)), ld_st_eq]
        · rw [b2, b4]; rfl
      | false =>
        obtain ⟨h3, b1, f3, c3, b2, b3, b4⟩ := rk_142 c2 q (d + 3)
        rw [if_pos bI_f, if_neg (by decide), e141_221, if_pos (F_a311 w2), Cl_eq _ b1, e226]
        refine ⟨h3, rfl, FrL_tr f12 f3, c3, b4.trans g27, ?_⟩
        rw [b2, b3]
        exact sg_LS
  · have ex : lxX tp n p = -1 := by unfold lxX; rw [if_neg q]
    have f3 := FrL_st w2 (j := 28) (by decide) 4
    rw [if_pos q, ex, e141_44, if_pos rfl, if_pos (W_a311 w2), e141_54, e226]
    exact ⟨_, rfl, FrL_tr f12 f3, RC_fr c2 f3 ((ld_st_ne (Or.inr (by decide))).trans c2.2.2.2.2.1) hp, (ld_st_ne (Or.inr (by decide))).trans g27, Or.inl ⟨rfl, ld_st_eq _ _ _ _⟩⟩
end TO
