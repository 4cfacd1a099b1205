/-! layer 2: the first state, a copy -/
theorem SOK_init {T : Wd} (hT : ∀ f i, I32 (T f i)) : SOK (sInit T) := by
  refine ⟨fun f i => ?_, (show (0 : Int) ≤ 0 by decide), (show (0 : Int) ≤ 40 by decide), fun _ => rfl⟩
  unfold sInit
  split
  · exact hT 8 i
  · unfold rng; split
    · exact I32_of (by decide)
    · exact I32_of (by decide)
  · exact I32_of (by decide)
section CP
variable {h : Hp} {s b : Int}
/-- what a book says -/
def BK (h : Hp) (b : Int) : Prop := WF h ∧ b ∈ BKL ∧ TOK (tC h b) ∧ CB h b ∧ ∀ f i, I32 (tC h b f i)
theorem BK_of (c : CK h s b) : BK h b := ⟨c.1, c.2.2.1, c.2.2.2.2.1, c.2.2.2.2.2.1, c.2.2.2.2.2.2.1⟩
def MdF (s : Int) (h h' : Hp) : Prop := WF h' ∧ h'.2 = h.2 ∧ ∀ a j : Int, ¬ (s ≤ a ∧ a ≤ s + 6) → h'.1 a j = h.1 a j
theorem MdF_st {h1 : Hp} (f : MdF s h h1) {a j v : Int} (ha : s ≤ a ∧ a ≤ s + 6) (hn : npt a j) : MdF s h (st h1 a j v) := ⟨wf_st f.1 hn, f.2.1, fun x y e => (ld_st_ne (Or.inl (fun z : x = a => e (by omega)))).trans (f.2.2 x y e)⟩
theorem MdF_cp {h1 : Hp} (f : MdF s h h1) {p q t u n : Int} (ha : s ≤ t ∧ t ≤ s + 6) (hn : ∀ j, npt t j) : MdF s h (cpy h1 p q t u n) := ⟨wf_cpy f.1 hn, f.2.1, fun x y e => by
  show ld (cpy h1 p q t u n) x y = _
  rw [ld_cpy, if_neg (by omega)]; exact f.2.2 x y e⟩
theorem MdF_B {c : Int} {h' : Hp} (m : MdF s h h') (hs : s ∈ STL) (hc : c ∈ BKL) : EqB h h' c := fun j h0 h1 _ _ _ k => m.2.2 (c + j) k (by have := st_b hs; rcases bk_b hc with rfl | rfl <;> omega)
theorem Md_F {h' : Hp} {S' : Wd} (f : MdF s h h') (e : ld h' s 0 = b) (v : sV h' s b = S') : Md s b h h' S' := ⟨f.1, f.2.1, fun a j _ e2 => f.2.2 a j e2, e, v⟩
theorem sjn (hs : s ∈ STL) {j : Int} (hj : j ∈ [(0 : Int), 1, 2, 3, 4, 5, 10]) : npt s j := npt_J (List.all_eq_true.mp (List.all_eq_true.mp sf_nJ s hs) j hj)
theorem kq_85 (c : BK h b) (hs : s ∈ STL) (d : Nat) : ∃ h', C d 85 [(2, s), (2, b)] h = some ((9, 0), h') ∧ Md s b h h' (sInit (tC h b)) := by
  obtain ⟨w, hb, hT, hCB, hI⟩ := id c
  have r := st_b hs
  have hN4 : 0 ≤ ld h b 4 ∧ ld h b 4 ≤ 5 := hT.2.1
  have hN11 : 0 ≤ ld h b 11 ∧ ld h b 11 ≤ 10 := hT.2.2.1
  have dS : s ≤ s ∧ s ≤ s + 6 := by omega
  rw [ce_85, e85_0, if_pos (sfW0 w hs), if_pos (by rw [okW_st]; exact sfW0 w hs)]
  have f1 : MdF s h (st (st h s 0 b) s 1 0) := MdF_st (MdF_st (s := s) ⟨w, rfl, fun _ _ _ => rfl⟩ dS (sjn hs (by decide))) dS (sjn hs (by decide))
  have w1 := f1.1
  rw [e85_10, if_pos (sfW0 w1 hs), if_pos (by rw [okW_st]; exact sfW0 w1 hs)]
  have f2 : MdF s h (st (st (st (st h s 0 b) s 1 0) s 2 0) s 3 0) := MdF_st (MdF_st f1 dS (sjn hs (by decide))) dS (sjn hs (by decide))
  have w2 := f2.1
  rw [e85_20, if_pos (sfW0 w2 hs), if_pos (by rw [okW_st]; exact sfW0 w2 hs)]
  have f3 : MdF s h (st (st (st (st (st (st h s 0 b) s 1 0) s 2 0) s 3 0) s 4 0) s 5 0) := MdF_st (MdF_st f2 dS (sjn hs (by decide))) dS (sjn hs (by decide))
  have w3 := f3.1
  rw [e85_30, if_pos (sfW0 w3 hs)]
  have f4 : MdF s h (st (st (st (st (st (st (st h s 0 b) s 1 0) s 2 0) s 3 0) s 4 0) s 5 0) s 10 0) := MdF_st f3 dS (sjn hs (by decide))
  have i0 : ∀ j : Int, ld (st (st (st (st (st (st (st h s 0 b) s 1 0) s 2 0) s 3 0) s 4 0) s 5 0) s 10 0) s j = if j = 0 then b else if j = 1 ∨ j = 2 ∨ j = 3 ∨ j = 4 ∨ j = 5 ∨ j = 10 then 0 else ld h s j := fun j => by
    simp only [ld_st, true_and]
    by_cases j10 : j = 10
    · subst j10; simp
    by_cases j5 : j = 5
    · subst j5; simp
    by_cases j4 : j = 4
    · subst j4; simp
    by_cases j3 : j = 3
    · subst j3; simp
    by_cases j2 : j = 2
    · subst j2; simp
    by_cases j1 : j = 1
    · subst j1; simp
    simp [j10, j5, j4, j3, j2, j1]
  generalize st (st (st (st (st (st (st h s 0 b) s 1 0) s 2 0) s 3 0) s 4 0) s 5 0) s 10 0 = h4 at *
  have bk : ∀ h1, MdF s h h1 → (∀ j, ld h1 b j = ld h b j) ∧ ∀ j, ld h1 (b + 5) j = ld h (b + 5) j := fun h1 f => by
    have e := MdF_B f hs hb
    exact ⟨EqB_0 e, e 5 (by decide) (by decide) (by decide) (by decide) (by decide)⟩
  -- the pieces
  have lp2 : ∀ (n : Nat) (k : Int) (h1 : Hp), MdF s h h1 → 0 ≤ k → k + n = 10 → (∀ j, ld h1 s j = ld h4 s j) → (∀ j, 0 ≤ j → j < 5 → ld h1 (s + 1) j = if j < ld h b 4 then ld h (b + 5) j else 0) → (∀ j, 0 ≤ j → j < k → ld h1 (s + 2) j = 0 ∧ ld h1 (s + 3) j = 0 ∧ ld h1 (s + 4) j = -1) → ∃ h', V d 85 74 [(2, s), (9, 0), (0, k)] [] h1 = some ((9, 0), h') ∧ MdF s h h' ∧ (∀ j, ld h' s j = ld h4 s j) ∧ (∀ j, 0 ≤ j → j < 5 → ld h' (s + 1) j = if j < ld h b 4 then ld h (b + 5) j else 0) ∧ (∀ j, 0 ≤ j → j < 10 → ld h' (s + 2) j = 0 ∧ ld h' (s + 3) j = 0 ∧ ld h' (s + 4) j = -1) := by
    intro n
    induction n with
    | zero =>
      intro k h1 f hk hn g0 g1 g2
      exact ⟨h1, by rw [e85_74, if_neg (by omega), e85_107], f, g0, g1, fun j j0 j1 => g2 j j0 (by omega)⟩
    | succ n ih =>
      intro k h1 f hk hn g0 g1 g2
      have w1 := f.1
      have f1 : MdF s h (st h1 (s + 2) k 0) := MdF_st f (by omega) (nfam_at sf_nA hs (by decide) _)
      have f2 : MdF s h (st (st h1 (s + 2) k 0) (s + 3) k 0) := MdF_st f1 (by omega) (nfam_at sf_nA hs (by decide) _)
      have f3 : MdF s h (st (st (st h1 (s + 2) k 0) (s + 3) k 0) (s + 4) k (-1)) := MdF_st f2 (by omega) (nfam_at sf_nA hs (by decide) _)
      rw [e85_74, if_pos (by omega), if_pos (sfF0 w1 hs), sfP7 w1 hs, if_pos (sfW2 w1 hs), sfL2 w1 hs, if_pos ⟨hk, by omega⟩, e85_87, if_pos (sfF0 f1.1 hs), sfP8 f1.1 hs, if_pos (sfW3 f1.1 hs), sfL3 f1.1 hs, if_pos ⟨hk, by omega⟩, e85_94, if_pos (sfF0 f2.1 hs), sfP9 f2.1 hs, if_pos (sfW4 f2.1 hs), sfL4 f2.1 hs, if_pos ⟨hk, by omega⟩, e85_101, wk hk (show k < 10 by omega) (by decide)]
      refine ih (k + 1) _ f3 (by omega) (by omega) (fun j => ?_) (fun j j0 j1 => ?_) (fun j j0 j1 => ?_)
      · rw [ld_st_ne (Or.inl (by omega)), ld_st_ne (Or.inl (by omega)), ld_st_ne (Or.inl (by omega))]; exact g0 j
      · rw [ld_st_ne (Or.inl (by omega)), ld_st_ne (Or.inl (by omega)), ld_st_ne (Or.inl (by omega))]; exact g1 j j0 j1
      · by_cases q : j = k
        · subst q
          refine ⟨?_, ?_, ld_st_eq _ _ _ _⟩
          · rw [ld_st_ne (Or.inl (by omega)), ld_st_ne (Or.inl (by omega)), ld_st_eq]
          · rw [ld_st_ne (Or.inl (by omega)), ld_st_eq]
        · have := g2 j j0 (by omega)
          rw [ld_st_ne (Or.inl (by omega)), ld_st_ne (Or.inl (by omega)), ld_st_ne (Or.inr q), ld_st_ne (Or.inl (by omega)), ld_st_ne (Or.inr q), ld_st_ne (Or.inl (by omega)), ld_st_ne (Or.inr q), ld_st_ne (Or.inl (by omega)), ld_st_ne (Or.inl (by omega))]
          exact this
  -- the purses
  have lp1 : ∀ (n : Nat) (k : Int) (h1 : Hp), MdF s h h1 → 0 ≤ k → k + n = 5 → (∀ j, ld h1 s j = ld h4 s j) → (∀ j, 0 ≤ j → j < k → ld h1 (s + 1) j = if j < ld h b 4 then ld h (b + 5) j else 0) → ∃ h', V d 85 37 [(2, s), (2, b), (0, k)] [] h1 = some ((9, 0), h') ∧ MdF s h h' ∧ (∀ j, ld h' s j = ld h4 s j) ∧ (∀ j, 0 ≤ j → j < 5 → ld h' (s + 1) j = if j < ld h b 4 then ld h (b + 5) j else 0) ∧ (∀ j, 0 ≤ j → j < 10 → ld h' (s + 2) j = 0 ∧ ld h' (s + 3) j = 0 ∧ ld h' (s + 4) j = -1) := by
    intro n
    induction n with
    | zero =>
      intro k h1 f hk hn g0 g1
      rw [e85_37, if_neg (by omega), e85_72]
      exact lp2 10 0 h1 f (by decide) (by decide) g0 (fun j j0 j1 => g1 j j0 (by omega)) (fun j j0 j1 => by omega)
    | succ n ih =>
      intro k h1 f hk hn g0 g1
      have w1 := f.1
      obtain ⟨b0, b5⟩ := bk h1 f
      have nx : ∀ v, v = (if k < ld h b 4 then ld h (b + 5) k else 0) → ∃ h', V d 85 65 [(2, s), (2, b), (0, k)] [(0, v), (0, k), (2, s + 1)] h1 = some ((9, 0), h') ∧ MdF s h h' ∧ (∀ j, ld h' s j = ld h4 s j) ∧ (∀ j, 0 ≤ j → j < 5 → ld h' (s + 1) j = if j < ld h b 4 then ld h (b + 5) j else 0) ∧ (∀ j, 0 ≤ j → j < 10 → ld h' (s + 2) j = 0 ∧ ld h' (s + 3) j = 0 ∧ ld h' (s + 4) j = -1) := fun v hv => by
        rw [e85_65, if_pos (sfW1 w1 hs), sfL1 w1 hs, if_pos ⟨hk, by omega⟩, wk hk (show k < 5 by omega) (by decide)]
        refine ih (k + 1) _ (MdF_st f (by omega) (nfam_at sf_nA hs (by decide) _)) (by omega) (by omega) (fun j => ?_) (fun j j0 j1 => ?_)
        · rw [ld_st_ne (Or.inl (by omega))]; exact g0 j
        · by_cases q : j = k
          · subst q; rw [ld_st_eq, hv]
          · rw [ld_st_ne (Or.inr q)]; exact g1 j j0 (by omega)
      rw [e85_37, if_pos (by omega), if_pos (sfF0 w1 hs), if_pos (bfF0 w1 hb), b0 4]
      by_cases q : k < ld h b 4
      · rw [if_pos q, if_pos (bfF0 w1 hb), bfP6 w1 hb, if_pos (bfF5 w1 hb), bfL5 w1 hb, if_pos ⟨hk, by omega⟩, sfP6 w1 hs, b5]
        exact nx _ (by rw [if_pos q])
      · rw [if_neg q, e85_64, sfP6 w1 hs]
        exact nx 0 (by rw [if_neg q])
  obtain ⟨h', a, f, g0, g1, g2⟩ := lp1 5 0 h4 f4 (by decide) (by decide) (fun _ => rfl) (fun j j0 j1 => by omega)
  refine ⟨h', a, Md_F f ((g0 0).trans ((i0 0).trans rfl)) ?_⟩
  have b4 : ld h' b 4 = ld h b 4 := (bk h' f).1 4
  have b11 : ld h' b 11 = ld h b 11 := (bk h' f).1 11
  have z : ∀ j : Int, j = 1 ∨ j = 2 ∨ j = 3 ∨ j = 4 ∨ j = 5 ∨ j = 10 → ld h' s j = 0 := fun j q => by rw [g0, i0, if_neg (by omega), if_pos q]
  funext g i
  show sC h' s (ld h' b 4) (ld h' b 11) g i = sInit (tC h b) g i
  rw [b4, b11]
  unfold sC sInit
  split
  · exact z 1 (by decide)
  · exact z 2 (by decide)
  · exact z 3 (by decide)
  · exact z 4 (by decide)
  · exact z 5 (by decide)
  · exact z 10 (by decide)
  · show rng i (ld h b 4) _ = rng i (ld h b 4) _
    unfold rng; split
    · rename_i q; rw [g1 i q.1 (by omega), if_pos q.2]
    · rfl
  · show rng i (ld h b 11) _ = 0
    unfold rng; split
    · rename_i q; exact (g2 i q.1 (by omega)).1
    · rfl
  · show rng i (ld h b 11) _ = 0
    unfold rng; split
    · rename_i q; exact (g2 i q.1 (by omega)).2.1
    · rfl
  · show rng i (ld h b 11) _ = rng i (ld h b 11) _
    unfold rng; split
    · rename_i q; exact (g2 i q.1 (by omega)).2.2
    · rfl
  · show rng i (ld h' s 10) _ = 0
    rw [z 10 (by decide)]; exact if_neg (by omega)
  · show rng i (ld h' s 10) _ = 0
    rw [z 10 (by decide)]; exact if_neg (by omega)
  · rename_i x0 x1 x2 x3 x4 x5 x6 x7 x8 x9 x10 x11
    split
    · exact absurd rfl x6
    · exact absurd rfl x9
    · rfl
/-- a copy of another state -/
theorem kq_86 {t : Int} (c : CK h t b) (k : SOK (sV h t b)) (hs : s ∈ STL) (ne : s ≠ t) (d : Nat) : ∃ h', C d 86 [(2, s), (2, t)] h = some ((9, 0), h') ∧ Md s b h h' (sV h t b) := by
  obtain ⟨w, ht, hb, e, hT, -⟩ := id c
  have r := st_b hs
  have sp := st_sep hs ht ne
  have hN4 : 0 ≤ ld h b 4 ∧ ld h b 4 ≤ 5 := hT.2.1
  have hN11 : 0 ≤ ld h b 11 ∧ ld h b 11 ≤ 10 := hT.2.2.1
  have dS : s ≤ s ∧ s ≤ s + 6 := by omega
  have f0 : MdF s h h := ⟨w, rfl, fun _ _ _ => rfl⟩
  have one : ∀ {h1 : Hp} (_ : MdF s h h1) (j : Int) (_ : j ∈ [(0 : Int), 1, 2, 3, 4, 5, 10]), MdF s h (st h1 s j (ld h t j)) := fun f j hj => MdF_st f dS (sjn hs hj)
  have tl : ∀ {h1 : Hp} (_ : MdF s h h1) (o : Int) (_ : 0 ≤ o ∧ o ≤ 6) (j : Int), ld h1 (t + o) j = ld h (t + o) j := fun f o ho j => f.2.2 _ _ (by omega)
  have t0 : ∀ {h1 : Hp} (_ : MdF s h h1) (j : Int), ld h1 t j = ld h t j := fun f j => f.2.2 _ _ (by omega)
  have f1 := one f0 0 (by decide)
  have f2 := one f1 1 (by decide)
  have f3 := one f2 2 (by decide)
  have f4 := one f3 3 (by decide)
  have f5 := one f4 4 (by decide)
  have f6 := one f5 5 (by decide)
  have f7 := one f6 10 (by decide)
  rw [ce_86, e86_0, if_pos (sfF0 w ht), if_pos (sfW0 w hs), if_pos (sfF0 f1.1 ht), if_pos (sfW0 f1.1 hs), t0 f1, e86_16, if_pos (sfF0 f2.1 ht), if_pos (sfW0 f2.1 hs), t0 f2, if_pos (sfF0 f3.1 ht), if_pos (sfW0 f3.1 hs), t0 f3, e86_32, if_pos (sfF0 f4.1 ht), if_pos (sfW0 f4.1 hs), t0 f4, if_pos (sfF0 f5.1 ht), if_pos (sfW0 f5.1 hs), t0 f5, e86_48, if_pos (sfF0 f6.1 ht), if_pos (sfW0 f6.1 hs), t0 f6, if_pos (sfF0 f7.1 ht), if_pos (sfF0 f7.1 hs)]
  have i0 : ∀ j : Int, j = 0 ∨ j = 1 ∨ j = 2 ∨ j = 3 ∨ j = 4 ∨ j = 5 ∨ j = 10 → ld (st (st (st (st (st (st (st h s 0 (ld h t 0)) s 1 (ld h t 1)) s 2 (ld h t 2)) s 3 (ld h t 3)) s 4 (ld h t 4)) s 5 (ld h t 5)) s 10 (ld h t 10)) s j = ld h t j := fun j hj => by
    rcases hj with rfl | rfl | rfl | rfl | rfl | rfl | rfl <;> simp [ld_st]
  generalize st (st (st (st (st (st (st h s 0 (ld h t 0)) s 1 (ld h t 1)) s 2 (ld h t 2)) s 3 (ld h t 3)) s 4 (ld h t 4)) s 5 (ld h t 5)) s 10 (ld h t 10) = h7 at *
  have cp : ∀ {h1 : Hp} (_ : MdF s h h1) (o : Int) (_ : 1 ≤ o ∧ o ≤ 6) (n : Int), MdF s h (cpy h1 (t + o) 0 (s + o) 0 n) := fun {h1} f o ho n => MdF_cp f (by omega) (fun j => nfam_at sf_nA hs (by
    have h6 : o = 1 ∨ o = 2 ∨ o = 3 ∨ o = 4 ∨ o = 5 ∨ o = 6 := by omega
    rcases h6 with rfl | rfl | rfl | rfl | rfl | rfl <;> decide) j)
  have g1 := cp f7 1 (by decide) 5
  have g2 := cp g1 2 (by decide) 10
  have g3 := cp g2 3 (by decide) 10
  have g4 := cp g3 4 (by decide) 10
  have g5 := cp g4 5 (by decide) 40
  have g6 := cp g5 6 (by decide) 40
  rw [sfP6 f7.1 ht, sfP6 f7.1 hs, if_pos (sfF1 f7.1 ht), if_pos (sfW1 f7.1 hs), sfL1 f7.1 ht, sfL1 f7.1 hs, if_pos (by decide),
    e86_70, if_pos (sfF0 g1.1 ht), if_pos (sfF0 g1.1 hs), sfP7 g1.1 ht, sfP7 g1.1 hs, if_pos (sfF2 g1.1 ht), if_pos (sfW2 g1.1 hs), sfL2 g1.1 ht, sfL2 g1.1 hs, if_pos (by decide),
    e86_85, if_pos (sfF0 g2.1 ht), if_pos (sfF0 g2.1 hs), sfP8 g2.1 ht, sfP8 g2.1 hs, if_pos (sfF3 g2.1 ht), if_pos (sfW3 g2.1 hs), sfL3 g2.1 ht, sfL3 g2.1 hs, if_pos (by decide),
    e86_100, if_pos (sfF0 g3.1 ht), if_pos (sfF0 g3.1 hs), sfP9 g3.1 ht, sfP9 g3.1 hs, if_pos (sfF4 g3.1 ht), if_pos (sfW4 g3.1 hs), sfL4 g3.1 ht, sfL4 g3.1 hs, if_pos (by decide),
    e86_115, if_pos (sfF0 g4.1 ht), if_pos (sfF0 g4.1 hs), sfP11 g4.1 ht, sfP11 g4.1 hs, if_pos (sfF5 g4.1 ht), if_pos (sfW5 g4.1 hs), sfL5 g4.1 ht, sfL5 g4.1 hs, if_pos (by decide),
    e86_130, if_pos (sfF0 g5.1 ht), if_pos (sfF0 g5.1 hs), sfP12 g5.1 ht, sfP12 g5.1 hs, if_pos (sfF6 g5.1 ht), if_pos (sfW6 g5.1 hs), sfL6 g5.1 ht, sfL6 g5.1 hs, if_pos (by decide), e86_145]
  have cl : ∀ (h1 : Hp) (o n a j : Int), ld (cpy h1 (t + o) 0 (s + o) 0 n) a j = if a = s + o ∧ 0 ≤ j ∧ j < n then ld h1 (t + o) j else ld h1 a j := fun h1 o n a j => by
    rw [ld_cpy]
    by_cases q : a = s + o ∧ 0 ≤ j ∧ j < n
    · rw [if_pos (by omega), if_pos q, show (0 : Int) + (j - 0) = j by omega]
    · rw [if_neg (by omega), if_neg q]
  refine ⟨_, rfl, Md_F g6 ?_ ?_⟩
  · rw [cl, if_neg (by omega), cl, if_neg (by omega), cl, if_neg (by omega), cl, if_neg (by omega), cl, if_neg (by omega), cl, if_neg (by omega), i0 0 (by decide)]
    exact e
  have z0 : ∀ j : Int, j = 0 ∨ j = 1 ∨ j = 2 ∨ j = 3 ∨ j = 4 ∨ j = 5 ∨ j = 10 → ld (cpy (cpy (cpy (cpy (cpy (cpy h7 (t + 1) 0 (s + 1) 0 5) (t + 2) 0 (s + 2) 0 10) (t + 3) 0 (s + 3) 0 10) (t + 4) 0 (s + 4) 0 10) (t + 5) 0 (s + 5) 0 40) (t + 6) 0 (s + 6) 0 40) s j = ld h t j := fun j hj => by
    rw [cl, if_neg (by omega), cl, if_neg (by omega), cl, if_neg (by omega), cl, if_neg (by omega), cl, if_neg (by omega), cl, if_neg (by omega), i0 j hj]
  have z6 : ∀ j, 0 ≤ j ∧ j < 40 → ld (cpy (cpy (cpy (cpy (cpy (cpy h7 (t + 1) 0 (s + 1) 0 5) (t + 2) 0 (s + 2) 0 10) (t + 3) 0 (s + 3) 0 10) (t + 4) 0 (s + 4) 0 10) (t + 5) 0 (s + 5) 0 40) (t + 6) 0 (s + 6) 0 40) (s + 6) j = ld h (t + 6) j := fun j hj => by
    rw [cl, if_pos ⟨rfl, hj⟩]; exact tl g5 6 (by decide) j
  have z5 : ∀ j, 0 ≤ j ∧ j < 40 → ld (cpy (cpy (cpy (cpy (cpy (cpy h7 (t + 1) 0 (s + 1) 0 5) (t + 2) 0 (s + 2) 0 10) (t + 3) 0 (s + 3) 0 10) (t + 4) 0 (s + 4) 0 10) (t + 5) 0 (s + 5) 0 40) (t + 6) 0 (s + 6) 0 40) (s + 5) j = ld h (t + 5) j := fun j hj => by
    rw [cl, if_neg (by omega), cl, if_pos ⟨rfl, hj⟩]; exact tl g4 5 (by decide) j
  have z4 : ∀ j, 0 ≤ j ∧ j < 10 → ld (cpy (cpy (cpy (cpy (cpy (cpy h7 (t + 1) 0 (s + 1) 0 5) (t + 2) 0 (s + 2) 0 10) (t + 3) 0 (s + 3) 0 10) (t + 4) 0 (s + 4) 0 10) (t + 5) 0 (s + 5) 0 40) (t + 6) 0 (s + 6) 0 40) (s + 4) j = ld h (t + 4) j := fun j hj => by
    rw [cl, if_neg (by omega), cl, if_neg (by omega), cl, if_pos ⟨rfl, hj⟩]; exact tl g3 4 (by decide) j
  have z3 : ∀ j, 0 ≤ j ∧ j < 10 → ld (cpy (cpy (cpy (cpy (cpy (cpy h7 (t + 1) 0 (s + 1) 0 5) (t + 2) 0 (s + 2) 0 10) (t + 3) 0 (s + 3) 0 10) (t + 4) 0 (s + 4) 0 10) (t + 5) 0 (s + 5) 0 40) (t + 6) 0 (s + 6) 0 40) (s + 3) j = ld h (t + 3) j := fun j hj => by
    rw [cl, if_neg (by omega), cl, if_neg (by omega), cl, if_neg (by omega), cl, if_pos ⟨rfl, hj⟩]; exact tl g2 3 (by decide) j
  have z2 : ∀ j, 0 ≤ j ∧ j < 10 → ld (cpy (cpy (cpy (cpy (cpy (cpy h7 (t + 1) 0 (s + 1) 0 5) (t + 2) 0 (s + 2) 0 10) (t + 3) 0 (s + 3) 0 10) (t + 4) 0 (s + 4) 0 10) (t + 5) 0 (s + 5) 0 40) (t + 6) 0 (s + 6) 0 40) (s + 2) j = ld h (t + 2) j := fun j hj => by
    rw [cl, if_neg (by omega), cl, if_neg (by omega), cl, if_neg (by omega), cl, if_neg (by omega), cl, if_pos ⟨rfl, hj⟩]; exact tl g1 2 (by decide) j
  have z1 : ∀ j, 0 ≤ j ∧ j < 5 → ld (cpy (cpy (cpy (cpy (cpy (cpy h7 (t + 1) 0 (s + 1) 0 5) (t + 2) 0 (s + 2) 0 10) (t + 3) 0 (s + 3) 0 10) (t + 4) 0 (s + 4) 0 10) (t + 5) 0 (s + 5) 0 40) (t + 6) 0 (s + 6) 0 40) (s + 1) j = ld h (t + 1) j := fun j hj => by
    rw [cl, if_neg (by omega), cl, if_neg (by omega), cl, if_neg (by omega), cl, if_neg (by omega), cl, if_neg (by omega), cl, if_pos ⟨rfl, hj⟩]; exact tl f7 1 (by decide) j
  have eb := MdF_B g6 hs hb
  generalize cpy (cpy (cpy (cpy (cpy (cpy h7 (t + 1) 0 (s + 1) 0 5) (t + 2) 0 (s + 2) 0 10) (t + 3) 0 (s + 3) 0 10) (t + 4) 0 (s + 4) 0 10) (t + 5) 0 (s + 5) 0 40) (t + 6) 0 (s + 6) 0 40 = h' at *
  have k5 : 0 ≤ ld h t 10 ∧ ld h t 10 ≤ 40 := ⟨k.2.1, k.2.2.1⟩
  have rg : ∀ {n i u v : Int}, (0 ≤ i ∧ i < n → u = v) → rng i n u = rng i n v := fun {n i u v} q => by
    unfold rng; split
    · rename_i z; exact q z
    · rfl
  funext g i
  show sC h' s (ld h' b 4) (ld h' b 11) g i = sC h t (ld h b 4) (ld h b 11) g i
  rw [EqB_0 eb, EqB_0 eb]
  unfold sC
  split
  · exact z0 1 (by decide)
  · exact z0 2 (by decide)
  · exact z0 3 (by decide)
  · exact z0 4 (by decide)
  · exact z0 5 (by decide)
  · exact z0 10 (by decide)
  · exact rg (fun q => z1 i (by omega))
  · exact rg (fun q => z2 i (by omega))
  · exact rg (fun q => z3 i (by omega))
  · exact rg (fun q => z4 i (by omega))
  · rw [z0 10 (by decide)]; exact rg (fun q => z5 i (by omega))
  · rw [z0 10 (by decide)]; exact rg (fun q => z6 i (by omega))
  · rfl
end CP
