/-! layer 2: the auction -/
def bdn (L : Int → Int) (pr : Int) : Nat → Int × Int → Int × Int
  | 0, A => A
  | n + 1, A => bdn L pr n (if L (n : Int) < pr then A else (A.1 + 1, (n : Int)))
def auc (L : Int → Int) : Nat → Int → Int → Int → Int × Int × Int
  | 0, pr, w, f => (w, f, pr)
  | n + 1, pr, w, f =>
    if (bdn L pr 5 (0, -2)).1 = 0 then (w, pr - 1, pr) else if (bdn L pr 5 (0, -2)).1 = 1 then ((bdn L pr 5 (0, -2)).2, pr, pr) else auc L n (pr + 1) (bdn L pr 5 (0, -2)).2 pr
def sBid (T S : Wd) (p i : Int) : Int := if qSit T i = true ∧ qLiv S i = true ∧ ¬ S 9 p = i then sLim T S p i else 0
theorem P291_0 {h : Hp} (w : WF h) : ld h 291 0 = 292 := wf_pt w (pt_in (by decide +kernel))
theorem auc_n (j : Int) (hj : 1 ≤ j ∧ j < 4) : npt 291 j := npt_J (by
  have h6 : j = 1 ∨ j = 2 ∨ j = 3 := by omega
  rcases h6 with rfl | rfl | rfl <;> decide +kernel)
section AU
variable {h : Hp} {s b : Int}
/-- what stays when only the auction's own cells change -/
theorem Mx_A {lo hi : Int} {h' : Hp} (c : CK h s b) (w' : WF h') (e2 : h'.2 = h.2) (hl : 282 < lo) (f : ∀ a j, ¬ (lo ≤ a ∧ a ≤ hi) → ld h' a j = ld h a j) : Mx lo hi s b h h' (sV h s b) := by
  obtain ⟨w, hs, hb, e, -⟩ := id c
  have r := st_b hs
  have eb : EqB h h' b := fun i h0 h1 _ _ _ k => f _ _ (by rcases bk_b hb with rfl | rfl <;> omega)
  have es : EqS h h' s := fun i h0 h1 k => f _ _ (by omega)
  exact ⟨w', e2, fun x y _ _ e3 => f x y e3, (EqS_0 es 0).trans e, sV_eq eb es⟩
theorem lp_price (w : WF h) {L : Int → Int} (hL : ∀ i, 0 ≤ i → i < 5 → ld h 292 i = L i) (d : Nat) :
    ∀ (n : Nat) (pr f : Int) (h1 : Hp), WF h1 → h1.2 = h.2 → (∀ a j, ¬ a = 291 → ld h1 a j = ld h a j) → pr + n = 1001 → 1 ≤ pr → ld h1 291 3 = pr → ld h1 291 2 = f →
      ∃ h', V d 119 81 [(2, 291), (9, 0), (9, 0), (9, 0), (9, 0), (9, 0)] [] h1 = some ((9, 0), h') ∧ WF h' ∧ h'.2 = h.2 ∧ (∀ a j, ¬ a = 291 → ld h' a j = ld h a j) ∧ ld h' 291 1 = (auc L n pr (ld h1 291 1) f).1 ∧ ld h' 291 2 = (auc L n pr (ld h1 291 1) f).2.1 ∧ ld h' 291 3 = (auc L n pr (ld h1 291 1) f).2.2 := by
  intro n
  induction n with
  | zero =>
    intro pr f h1 w1 q1 f1 hn hp e3 e2
    refine ⟨h1, ?_, w1, q1, f1, rfl, e2, e3⟩
    rw [e119_81, if_pos (F_a291 w1), e3, if_pos (by omega), e119_180]
  | succ n ih =>
    intro pr f h1 w1 q1 f1 hn hp e3 e2
    have inner : ∀ (m : Nat) (A : Int × Int), m ≤ 5 → 0 ≤ A.1 → A.1 ≤ 5 - m → V d 119 100 [(2, 291), (9, 0), (9, 0), (0, A.1), (0, A.2), (0, (m : Int) - 1)] [] h1 = V d 119 132 [(2, 291), (9, 0), (9, 0), (0, (bdn L pr m A).1), (0, (bdn L pr m A).2), (9, 0)] [] h1 := by
      intro m
      induction m with
      | zero => intro A _ _ _; rw [e119_100, if_pos (by omega)]; rfl
      | succ m ihm =>
        intro A hm h0 h5
        have hL1 : ld h1 292 (m : Int) = L m := (f1 292 m (by decide)).trans (hL m (by omega) (by omega))
        have wm : True → w32 ((m : Int) + -1) = (m : Int) - 1 := fun _ => by unfold w32; omega
        have wa : True → w32 (A.1 + 1) = A.1 + 1 := fun _ => by unfold w32; omega
        rw [e119_100, if_neg (by omega), show ((m + 1 : Nat) : Int) - 1 = (m : Int) by omega, if_pos (F_a291 w1), P291_0 w1, if_pos (F_a292 w1), L_a292 w1, if_pos (by omega), if_pos (F_a291 w1), e3, hL1]
        show _ = V d 119 132 [(2, 291), (9, 0), (9, 0), (0, (bdn L pr m (if L (m : Int) < pr then A else (A.1 + 1, (m : Int)))).1), (0, (bdn L pr m (if L (m : Int) < pr then A else (A.1 + 1, (m : Int)))).2), (9, 0)] [] h1
        by_cases q : L m < pr
        · rw [if_pos q, if_pos q, e119_126, wm trivial]
          exact ihm A (by omega) h0 (by omega)
        · rw [if_neg q, if_neg q, e119_119, e119_126, wm trivial, wa trivial]
          exact ihm (A.1 + 1, (m : Int)) (by omega) (by show 0 ≤ A.1 + 1; omega) (by show A.1 + 1 ≤ 5 - (m : Int); omega)
    have hin := inner 5 (0, -2) (by decide) (by decide) (by decide)
    have hin : V d 119 100 [(2, 291), (9, 0), (9, 0), (0, 0), (0, -2), (0, 4)] [] h1 = _ := hin
    rw [e119_81, if_pos (F_a291 w1), e3, if_neg (by omega), e119_93, hin, e119_132]
    unfold auc
    generalize bdn L pr 5 (0, -2) = q at *
    by_cases z0 : q.1 = 0
    · rw [if_pos z0, if_pos z0, if_pos (F_a291 w1), if_pos (W_a291 w1), e119_146, e3]
      refine ⟨st h1 291 2 (w32 (pr - 1)), rfl, wf_st w1 (auc_n 2 (by decide)), q1, fun a j e => (ld_st_ne (Or.inl e)).trans (f1 a j e), ld_st_ne (Or.inr (by decide)), ?_, (ld_st_ne (Or.inr (by decide))).trans e3⟩
      rw [ld_st_eq]; show w32 (pr - 1) = pr - 1; unfold w32; omega
    · have w2 : WF (st h1 291 1 q.2) := wf_st w1 (auc_n 1 (by decide))
      have w3 : WF (st (st h1 291 1 q.2) 291 2 pr) := wf_st w2 (auc_n 2 (by decide))
      have r3 : ld (st h1 291 1 q.2) 291 3 = pr := (ld_st_ne (Or.inr (by decide))).trans e3
      have g1 : ld (st (st h1 291 1 q.2) 291 2 pr) 291 1 = q.2 := by rw [ld_st_ne (Or.inr (by decide)), ld_st_eq]
      have g2 : ld (st (st h1 291 1 q.2) 291 2 pr) 291 2 = pr := ld_st_eq _ _ _ _
      have g3 : ld (st (st h1 291 1 q.2) 291 2 pr) 291 3 = pr := (ld_st_ne (Or.inr (by decide))).trans r3
      have gf : ∀ a j, ¬ a = 291 → ld (st (st h1 291 1 q.2) 291 2 pr) a j = ld h a j := fun a j e => by rw [ld_st_ne (Or.inl e), ld_st_ne (Or.inl e)]; exact f1 a j e
      have gq : (st (st h1 291 1 q.2) 291 2 pr).2 = h.2 := q1
      rw [if_neg z0, if_neg z0, e119_147, if_pos (W_a291 w1), if_pos (F_a291 w2), if_pos (W_a291 w2), r3, e119_161]
      generalize st (st h1 291 1 q.2) 291 2 pr = h3 at *
      by_cases z1 : q.1 = 1
      · rw [if_pos z1, if_pos z1]
        exact ⟨h3, rfl, w3, gq, gf, g1, g2, g3⟩
      · rw [if_neg z1, if_neg z1, e119_167, if_pos (F_a291 w3), if_pos (W_a291 w3), g3, e119_177, wk (N := 1001) (show 0 ≤ pr by omega) (by omega) (by decide)]
        have := ih (pr + 1) pr (st h3 291 3 (pr + 1)) (wf_st w3 (auc_n 3 (by decide))) gq (fun a j e => (ld_st_ne (Or.inl e)).trans (gf a j e)) (by omega) (by omega) (ld_st_eq _ _ _ _) ((ld_st_ne (Or.inr (by decide))).trans g2)
        rw [(ld_st_ne (Or.inr (by decide)) : ld (st h3 291 3 (pr + 1)) 291 1 = ld h3 291 1), g1] at this
        exact this
def sAuc (T S : Wd) (p f : Int) : Int × Int × Int := auc (sBid T S p) 1000 1 (-2) f
theorem kq_119 (c : CK h s b) (k0 : SOK (sV h s b)) {p : Int} (hp : 0 ≤ p ∧ p < ld h b 11) (d : Nat) : ∃ h', C (d + 5) 119 [(2, 291), (2, s), (0, p)] h = some ((9, 0), h') ∧ Mx 291 292 s b h h' (sV h s b) ∧ ld h' 291 1 = (sAuc (tC h b) (sV h s b) p (ld h 291 2)).1 ∧ ld h' 291 2 = (sAuc (tC h b) (sV h s b) p (ld h 291 2)).2.1 ∧ ld h' 291 3 = (sAuc (tC h b) (sV h s b) p (ld h 291 2)).2.2 := by
  obtain ⟨w, hs, hb, e, hT, -⟩ := id c
  obtain ⟨⟨q1, q2⟩, -⟩ := pie_b hT hp
  have key : ∀ (n : Nat) (k : Int) (h1 : Hp), 0 ≤ k → k + n = 5 → Mx 291 292 s b h h1 (sV h s b) → (∀ j, 0 ≤ j → j < k → ld h1 292 j = sBid (tC h b) (sV h s b) p j) → (ld h1 291 2 = ld h 291 2) →
      ∃ h', V (d + 5) 119 2 [(2, 291), (2, s), (0, p), (0, k), (9, 0), (9, 0)] [] h1 = some ((9, 0), h') ∧ Mx 291 292 s b h h' (sV h s b) ∧ ld h' 291 1 = (sAuc (tC h b) (sV h s b) p (ld h 291 2)).1 ∧ ld h' 291 2 = (sAuc (tC h b) (sV h s b) p (ld h 291 2)).2.1 ∧ ld h' 291 3 = (sAuc (tC h b) (sV h s b) p (ld h 291 2)).2.2 := by
    intro n
    induction n with
    | zero =>
      intro k h1 hk hn m1 hb1 hf
      obtain ⟨c1, t1, s1⟩ := CK_mx c m1 (by decide) k0
      obtain ⟨w1, -, -, e1, -⟩ := id c1
      have w2 : WF (st h1 291 1 (-2)) := wf_st w1 (auc_n 1 (by decide))
      have w3 : WF (st (st h1 291 1 (-2)) 291 3 1) := wf_st w2 (auc_n 3 (by decide))
      rw [e119_2, if_neg (by omega), e119_70, if_pos (W_a291 w1), if_pos (W_a291 w2)]
      have hf3 : ld (st (st h1 291 1 (-2)) 291 3 1) 291 2 = ld h 291 2 := by rw [ld_st_ne (Or.inr (by decide)), ld_st_ne (Or.inr (by decide))]; exact hf
      obtain ⟨h', a, w', q', f', r1, r2, r3⟩ := lp_price w3 (L := sBid (tC h b) (sV h s b) p) (fun i i0 i5 => by rw [ld_st_ne (Or.inl (by decide)), ld_st_ne (Or.inl (by decide))]; exact hb1 i i0 (by omega)) (d + 5) 1000 1 (ld h 291 2) _ w3 rfl (fun _ _ _ => rfl) (by decide) (by decide) (ld_st_eq _ _ _ _) hf3
      have g1 : ld (st (st h1 291 1 (-2)) 291 3 1) 291 1 = -2 := by rw [ld_st_ne (Or.inr (by decide)), ld_st_eq]
      rw [g1] at r1 r2 r3
      refine ⟨h', a, ?_, r1, r2, r3⟩
      have m2 : Mx 291 292 s b h1 h' (sV h1 s b) := Mx_A c1 w' q' (by decide) (fun a j ne => by rw [f' a j (by omega), ld_st_ne (Or.inl (by omega)), ld_st_ne (Or.inl (by omega))])
      rw [s1] at m2
      exact Mx_tr m1 m2
    | succ n ih =>
      intro k h1 hk hn m1 hb1 hf
      obtain ⟨c1, t1, s1⟩ := CK_mx c m1 (by decide) k0
      obtain ⟨w1, -, -, e1, hT1, -⟩ := id c1
      have p1 : ld h1 b 11 = ld h b 11 := congrFun (congrFun t1 2) 0
      have hp1 : 0 ≤ p ∧ p < ld h1 b 11 := by rw [p1]; exact hp
      -- the bid is put down
      have put : ∀ (h2 : Hp) (v : Int), FrS h1 h2 → v = sBid (tC h b) (sV h s b) p k → ∃ h', V (d + 5) 119 63 [(2, 291), (2, s), (0, p), (0, k), (9, 0), (9, 0)] [(0, v), (0, k), (2, 292)] h2 = some ((9, 0), h') ∧ Mx 291 292 s b h h' (sV h s b) ∧ ld h' 291 1 = (sAuc (tC h b) (sV h s b) p (ld h 291 2)).1 ∧ ld h' 291 2 = (sAuc (tC h b) (sV h s b) p (ld h 291 2)).2.1 ∧ ld h' 291 3 = (sAuc (tC h b) (sV h s b) p (ld h 291 2)).2.2 := by
        intro h2 v f2 hv
        obtain ⟨c2, t2, s2⟩ := CK_fr c1 f2
        obtain ⟨w2, -⟩ := id c2
        rw [e119_63, if_pos (W_a292 w2), L_a292 w2, if_pos (by omega), wk hk (show k < 5 by omega) (by decide)]
        have m3 : Mx 291 292 s b h2 (st h2 292 k v) (sV h2 s b) := Mx_st c2 (by decide) (by decide) (npt_A (by decide +kernel) _)
        have m : Mx 291 292 s b h (st h2 292 k v) (sV h s b) := by have := Mx_tr m1 (Mx_tr (Mx_of (Md_fr c1 f2)) m3); rw [s2, s1] at this; exact this
        refine ih (k + 1) _ (by omega) (by omega) m (fun j j0 j1 => ?_) ?_
        · by_cases q : j = k
          · subst q; rw [ld_st_eq]; exact hv
          · rw [ld_st_ne (Or.inr q), FrS_ld f2 (a := 292) (by decide +kernel)]; exact hb1 j j0 (by omega)
        · rw [ld_st_ne (Or.inl (by decide)), FrS_ld f2 (a := 291) (by decide +kernel)]; exact hf
      have no : sBid (tC h b) (sV h s b) p k = 0 → ∃ h', V (d + 5) 119 40 [(2, 291), (2, s), (0, p), (0, k), (9, 0), (9, 0)] [] h1 = some ((9, 0), h') ∧ Mx 291 292 s b h h' (sV h s b) ∧ ld h' 291 1 = (sAuc (tC h b) (sV h s b) p (ld h 291 2)).1 ∧ ld h' 291 2 = (sAuc (tC h b) (sV h s b) p (ld h 291 2)).2.1 ∧ ld h' 291 3 = (sAuc (tC h b) (sV h s b) p (ld h 291 2)).2.2 := fun hz => by
        rw [e119_40, e119_41, if_pos (F_a291 w1), if_pos rfl, P291_0 w1, e119_62]
        exact put h1 0 (FrS_rf w1) hz.symm
      rw [e119_2, if_pos (by omega), if_pos (sfF0 w1 hs), e1, if_pos (bfF0 w1 hb), Cl_eq _ (kq_67 w1 hb (d + 4) k), t1]
      simp only [bI_e0]
      by_cases x1 : qSit (tC h b) k = true
      · rw [if_neg (by rw [x1]; decide), e119_18, if_pos (sfF0 w1 hs), Cl_eq _ (kq_87 w1 hs (d + 4) (ld h1 b 4) (ld h1 b 11) k), show sC h1 s (ld h1 b 4) (ld h1 b 11) = sV h s b from s1]
        simp only [bI_e0]
        by_cases x2 : qLiv (sV h s b) k = true
        · rw [if_neg (by rw [x2]; decide), if_pos (sfF0 w1 hs), sfP9 w1 hs, if_pos (sfF4 w1 hs), sfL4 w1 hs, if_pos ⟨q1, q2⟩, sC_9 (ns := ld h1 b 4) hp1, show sC h1 s (ld h1 b 4) (ld h1 b 11) = sV h s b from s1]
          by_cases x3 : sV h s b 9 p = k
          · rw [if_pos x3]; exact no (if_neg (fun z => z.2.2 x3))
          · obtain ⟨h2, a2, f2⟩ := kq_95 c1 hp1 (one := k) (by have := qSit_iff.mp x1; rw [← t1] at this; exact this) d
            rw [t1, s1] at a2
            rw [if_neg x3, e119_36, e119_41, if_pos (F_a291 w1), if_neg (by decide), if_pos (sfF0 w1 hs), P291_0 w1, Cl_eq _ a2]
            exact put h2 _ f2 (if_pos ⟨x1, x2, x3⟩).symm
        · rw [if_pos (Bool.eq_false_iff.mpr x2)]; exact no (if_neg (fun z => x2 z.2.1))
      · rw [if_pos (Bool.eq_false_iff.mpr x1)]; exact no (if_neg (fun z => x1 z.1))
  rw [ce_119, e119_0]
  exact key 5 0 h (by decide) (by decide) (Mx_of (Md_rf c)) (fun j j0 j1 => by omega) rfl
end AU
