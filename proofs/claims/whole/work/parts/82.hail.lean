/-! layer 2: hail -/
section LH
variable {h : Hp} {tp : Int → Int} {b n pl : Int} {T : Wd} {tw hl kn : Int}
def haL (tp : Int → Int) (n tw kn : Int) : Nat → Int → Wd → Int → LnR
  | 0, _, T, pl => .ok (T, tw, 1, kn, pl)
  | m + 1, k, T, pl => if tkn tp n pl = -4 then (if k = 12 ∨ ¬ wN tp n pl < 100 then .error (2, pl) else haL tp n tw kn m (k + 1) (up2 T 18 (wN tp n pl) 1) (adv tp n pl)) else .ok (T, tw, 1, kn, pl)
def lnHai (tp : Int → Int) (n : Int) (T : Wd) (tw hl kn pl : Int) : LnR :=
  if ¬ hl = 0 then .error (3, pl) else
  let p1 := adv tp n pl
  if ¬ tkn tp n p1 = -4 then .error (1, p1) else haL tp n tw kn 13 0 T p1
theorem TOK_hai (hT : TOK T) (i v : Int) : TOK (up2 T 18 i v) := hT
theorem isT (p : PL h tp b n pl T tw hl kn) : isTok (tkn tp n pl) = true := by
  have tb := (tkn_c tp n pl).1
  unfold isTok; simp; omega
theorem kq_47 (p : PL h tp b n pl T tw hl kn) (d : Nat) : ∃ r h', C (d + 8) 47 [(2, 3)] h = some ((0, r), h') ∧ FrP b h h' ∧ LnA tp b n r h' (lnHai tp n T tw hl kn pl) := by
  have hb := p.1.2.2.1
  have lp : ∀ (m : Nat) (k : Int) (T : Wd) (pl : Int) (h1 : Hp), PL h1 tp b n pl T tw 1 kn → 0 ≤ k → k + m = 13 → ∃ r h', V (d + 8) 47 52 [(2, 3), (0, k), (9, 0)] [] h1 = some ((0, r), h') ∧ FrP b h1 h' ∧ LnA tp b n r h' (haL tp n tw kn m k T pl) := by
    intro m
    induction m with
    | zero =>
      intro k T pl h1 p1 hk hm
      exact ⟨1, h1, by rw [e47_52, if_pos (by omega), e47_124, if_pos (by decide)], FrP_rf p1.1.1.1, rfl, p1⟩
    | succ m ih =>
      intro k T pl h1 p1 hk hm
      have w1 := p1.1.1.1
      have eb1 := p1.1.2.2.2.1
      have tk3 := p1.1.2.2.2.2.1
      unfold haL
      rw [e47_52, if_neg (by omega), if_pos (F_a3 w1), P3_0 w1, if_pos (F_a4 w1), tk3, if_pos ⟨isT p1, by decide⟩]
      by_cases q : tkn tp n pl = -4
      · obtain ⟨c1, c2, c3⟩ := (tkn_c tp n pl).2.2.1 q
        have hv := p1.1.2.2.2.2.2.2.2.2 c1 c2 c3
        have h5 := p1.1.2.2.2.2.2.2.1
        rw [if_pos q, if_pos q, e47_71, if_pos (F_a3 w1), P3_0 w1, if_pos (F_a4 w1)]
        have bad : (k = 12 ∨ ¬ wN tp n pl < 100) → ∃ r h', V (d + 8) 47 95 [(2, 3), (9, 0), (9, 0)] [] h1 = some ((0, r), h') ∧ FrP b h1 h' ∧ LnA tp b n r h' (if k = 12 ∨ ¬ wN tp n pl < 100 then .error (2, pl) else haL tp n tw kn m (k + 1) (up2 T 18 (wN tp n pl) 1) (adv tp n pl)) := fun z => by
          rw [if_pos z, e47_95, if_pos (F_a3 w1), Cl_eq _ (kq_35 p1.1 2 (d + 7)).1, if_pos (by decide)]
          obtain ⟨g1, g2⟩ := LnA_f p1 2
          exact ⟨0, _, rfl, g1, g2⟩
        by_cases q2 : k = 12
        · rw [if_pos q2]; exact bad (Or.inl q2)
        · rw [if_neg q2, e47_85, if_neg (by omega)]
          by_cases q3 : ld h1 4 5 < 100
          · have hw : wN tp n pl = ld h1 4 5 := by rw [← hv]; unfold imin; split <;> omega
            have hw0 : 0 ≤ wN tp n pl ∧ wN tp n pl < 100 := by omega
            rw [if_pos q3, if_neg (fun z => z.elim q2 (fun y => y hw0.2)), ← hw, e47_101, if_pos (F_a3 w1), eb1, if_pos (bfF0 w1 hb), bfP18 w1 hb, if_pos (bfW16 w1 hb), bfL16 w1 hb, if_pos hw0, if_pos (by decide)]
            have f3 := BkF_st (BkF_rf (b := b) w1) (a := b + 16) (j := wN tp n pl) (v := 1) (by omega) (nfam_at bf_nA hb (by decide) _)
            have e3 := tC_a18 (h := h1) (b := b) (i := wN tp n pl) hw0 1
            rw [p1.2.1] at e3
            have l3 : PL _ tp b n pl (up2 T 18 (wN tp n pl) 1) tw 1 kn :=
              PL_bk p1 f3 e3 ((ld_st_ne (Or.inl (by omega))).trans p1.2.2.1) ((ld_st_ne (Or.inl (by omega))).trans p1.2.2.2.1) (TOK_hai p1.2.2.2.2.2.1 _ _) (CB_of p1.2.2.2.2.2.2.1 (fun off o1 o2 j => ld_st_ne (Or.inl (by omega)))) (I32_up2 p1.2.2.2.2.2.2.2.1 (I32_of (by decide)))
            obtain ⟨h4, a4, f4, l4⟩ := PL_adv l3 (d + 1)
            have w3 := l3.1.1.1
            obtain ⟨r, h', a, f, g⟩ := ih (k + 1) _ _ h4 l4 (by omega) (by omega)
            refine ⟨r, h', ?_, FrP_tr (FrP_B f3) (FrP_tr f4 f), g⟩
            rw [e47_111, if_pos (F_a3 w3), P3_0 w3, if_pos (F_a4 w3), Cl_eq _ a4, show w32 (k + 1) = k + 1 by unfold w32; omega]
            exact a
          · rw [if_neg q3]
            exact bad (Or.inr (by rw [← hv]; unfold imin; split <;> omega))
      · rw [if_neg q, if_neg q, e47_124, if_pos (by decide)]
        exact ⟨1, h1, rfl, FrP_rf w1, rfl, p1⟩
  obtain ⟨ps, pt, p8, p17, p5, pT, pC, pI, -⟩ := id p
  have w := ps.1.1
  have eb := ps.2.2.2.1
  unfold lnHai
  rw [ce_47, e47_0, if_pos (F_a3 w), eb, if_pos (bfF0 w hb), p17]
  by_cases q : hl = 0
  · have f1 := BkF_st (BkF_rf (b := b) w) (a := b) (j := 17) (v := 1) (by omega) (bjn hb (by decide))
    have e1 := tC_f17 (h := h) (b := b) 1
    rw [pt] at e1
    have l1 : PL _ tp b n pl T tw 1 kn :=
      PL_bk p f1 e1 ((ld_st_ne (Or.inr (by decide))).trans p8) (ld_st_eq _ _ _ _) pT (CB_of pC (fun off o1 o2 j => ld_st_ne (Or.inl (by omega)))) pI
    have w1 := l1.1.1.1
    obtain ⟨h2, a2, f2, l2⟩ := PL_adv l1 (d + 1)
    have w2 := l2.1.1.1
    have tk3 := l2.1.2.2.2.2.1
    rw [if_pos q, if_neg (fun z => z q), e47_16, if_pos (F_a3 w), eb, if_pos (bfW0 w hb), if_pos (by decide), if_pos (F_a3 w1), P3_0 w1, if_pos (F_a4 w1), Cl_eq _ a2, e47_31, if_pos (F_a3 w2), P3_0 w2, if_pos (F_a4 w2), tk3, if_pos ⟨isT l2, by decide⟩]
    dsimp only
    by_cases q2 : tkn tp n (adv tp n pl) = -4
    · obtain ⟨r, h', a, f, g⟩ := lp 13 0 T (adv tp n pl) h2 l2 (by decide) (by decide)
      rw [if_pos q2, if_neg (fun y => y q2), e47_50]
      exact ⟨r, h', a, FrP_tr (FrP_B f1) (FrP_tr f2 f), g⟩
    · rw [if_neg q2, if_pos q2, if_pos (F_a3 w2), Cl_eq _ (kq_35 l2.1 1 (d + 7)).1, if_pos (by decide)]
      obtain ⟨g1, g2⟩ := LnA_f l2 1
      exact ⟨0, _, rfl, FrP_tr (FrP_B f1) (FrP_tr f2 g1), g2⟩
  · rw [if_neg q, if_pos q, if_pos (F_a3 w), Cl_eq _ (kq_35 ps 3 (d + 7)).1, if_pos (by decide)]
    obtain ⟨g1, g2⟩ := LnA_f p 3
    exact ⟨0, _, rfl, g1, g2⟩
end LH
