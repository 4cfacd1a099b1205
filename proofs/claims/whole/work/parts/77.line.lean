/-! layer 2: a line of a text -/
abbrev LnR := Except (Int × Int) (Wd × Int × Int × Int × Int)
def NB (h : Hp) : Prop := 0 ≤ ld h 4 5 ∧ ld h 4 5 ≤ 100000
def FrP (b : Int) (h h' : Hp) : Prop := WF h' ∧ (h'.2 = h.2 ∧ (b ∈ BKL → NB h → NB h')) ∧ ∀ a j : Int, ¬ (b ≤ a ∧ a < b + 30) → ¬ (a = 4 ∧ 2 ≤ j ∧ j ≤ 6) → ¬ (a = 3 ∧ j ≠ 0 ∧ j ≠ 1 ∧ j ≠ 2 ∧ j ≠ 6) → ¬ a = 36 → ld h' a j = ld h a j
theorem FrP_rf {b : Int} {h : Hp} (w : WF h) : FrP b h h := ⟨w, ⟨rfl, fun _ z => z⟩, fun _ _ _ _ _ _ => rfl⟩
theorem FrP_tr {b : Int} {h h1 h2 : Hp} (f : FrP b h h1) (g : FrP b h1 h2) : FrP b h h2 := ⟨g.1, ⟨g.2.1.1.trans f.2.1.1, fun y z => g.2.1.2 y (f.2.1.2 y z)⟩, fun a j e1 e2 e3 e4 => (g.2.2 a j e1 e2 e3 e4).trans (f.2.2 a j e1 e2 e3 e4)⟩
theorem FrP_R {b : Int} {h h' : Hp} (f : FrR h h') (nb : NB h') : FrP b h h' := ⟨f.1, ⟨f.2.1, fun _ _ => nb⟩, fun a j _ e2 _ _ => f.2.2 a j e2⟩
theorem FrP_B {b : Int} {h h' : Hp} (f : BkF b h h') : FrP b h h' := ⟨f.1, ⟨f.2.1, fun y z => by
    have e := f.2.2 4 5 (by rcases bk_b y with rfl | rfl <;> omega)
    unfold NB; rw [e]; exact z⟩, fun a j e1 _ _ _ => f.2.2 a j e1⟩
theorem FrP_3 {b : Int} {h : Hp} (w : WF h) {j : Int} (hj : (3 ≤ j ∧ j ≤ 8) ∧ j ≠ 6) (v : Int) : FrP b h (st h 3 j v) := ⟨wf_st w (n3 (by omega) (by omega)), ⟨rfl, fun _ z => by unfold NB; rw [ld_st_ne (Or.inl (by decide))]; exact z⟩, fun a i _ _ e3 _ => ld_st_ne (by omega)⟩
/-- the parser at a token, its book saying T so far -/
def PL (h : Hp) (tp : Int → Int) (b n pl : Int) (T : Wd) (tw hl kn : Int) : Prop := PS h tp b n pl ∧ tC h b = T ∧ ld h b 8 = tw ∧ ld h b 17 = hl ∧ ld h 3 5 = kn ∧ TOK T ∧ CB h b ∧ (∀ f i, I32 (T f i)) ∧ ld h 3 7 = 0 ∧ ld h 3 8 = -1
def LnA (tp : Int → Int) (b n r : Int) (h' : Hp) : LnR → Prop
  | .error (k, pc) => r = 0 ∧ ld h' 3 7 = k ∧ ld h' 3 8 = pc
  | .ok (T, tw, hl, kn, pl) => r = 1 ∧ PL h' tp b n pl T tw hl kn
section LN
variable {h : Hp} {tp : Int → Int} {b n pl : Int} {T : Wd} {tw hl kn : Int}
theorem CB_of {h h' : Hp} {b : Int} (c : CB h b) (e : ∀ off : Int, 18 ≤ off → off < 30 → ∀ j, ld h' (b + off) j = ld h (b + off) j) : CB h' b := by
  intro k k0 k3
  obtain ⟨c1, c2⟩ := c k k0 k3
  have e1 := e (18 + 4 * k) (by omega) (by omega)
  have e2 := e (19 + 4 * k) (by omega) (by omega)
  have e3 := e (20 + 4 * k) (by omega) (by omega)
  rw [show b + (18 + 4 * k) = b + 18 + 4 * k by omega] at e1
  rw [show b + (19 + 4 * k) = b + 19 + 4 * k by omega] at e2
  rw [show b + (20 + 4 * k) = b + 20 + 4 * k by omega] at e3
  rw [e1]
  exact ⟨c1, fun i i0 i1 => by rw [e2, e3]; exact c2 i i0 i1⟩
theorem PL_adv (p : PL h tp b n pl T tw hl kn) (d : Nat) : ∃ h', C (d + 6) 58 [(2, 4)] h = some ((9, 0), h') ∧ FrP b h h' ∧ PL h' tp b n (adv tp n pl) T tw hl kn := by
  obtain ⟨p1, p2, p3, p4, p5, p6, p7, p8, p9, p10⟩ := id p
  obtain ⟨h', a, f, q⟩ := PS_adv p1 d
  have hb := p1.2.2.1
  have eo : ∀ off : Int, 0 ≤ off → ∀ j, ld h' (b + off) j = ld h (b + off) j := fun off o j => f.2.2 _ _ (by rcases bk_b hb with rfl | rfl <;> omega)
  have e0 : ∀ j, ld h' b j = ld h b j := fun j => f.2.2 _ _ (by rcases bk_b hb with rfl | rfl <;> omega)
  exact ⟨h', a, FrP_R f q.2.2.2.2.2.2.1, q, (tC_eq (fun j j0 _ _ _ _ k => eo j j0 k)).trans p2, (e0 8).trans p3, (e0 17).trans p4, (f.2.2 3 5 (by omega)).trans p5, p6, CB_of p7 (fun off o1 _ j => eo off (by omega) j), p8, (f.2.2 3 7 (by omega)).trans p9, (f.2.2 3 8 (by omega)).trans p10⟩
/-- a fault -/
theorem LnA_f (p : PL h tp b n pl T tw hl kn) (k : Int) : FrP b h (st (st h 3 7 k) 3 8 pl) ∧ LnA tp b n 0 (st (st h 3 7 k) 3 8 pl) (.error (k, pl)) := by
  have w := p.1.1.1
  have f1 := FrP_3 (b := b) w (j := 7) (by decide) k
  have f2 := FrP_3 (b := b) f1.1 (j := 8) (by decide) pl
  exact ⟨FrP_tr f1 f2, rfl, (ld_st_ne (Or.inr (by decide))).trans (ld_st_eq _ _ _ _), ld_st_eq _ _ _ _⟩
/-- after a change of the book -/
theorem PL_bk {h' : Hp} {T' : Wd} {tw' hl' : Int} (p : PL h tp b n pl T tw hl kn) (f : BkF b h h') (e : tC h' b = T') (e8 : ld h' b 8 = tw') (e17 : ld h' b 17 = hl') (hT : TOK T') (hC : CB h' b) (hI : ∀ f i, I32 (T' f i)) : PL h' tp b n pl T' tw' hl' kn := by
  have hb := p.1.2.2.1
  have g : ∀ a j, a ≤ 36 → ld h' a j = ld h a j := fun a j z => f.2.2 a j (by rcases bk_b hb with rfl | rfl <;> omega)
  exact ⟨PS_keep p.1 f.1 (fun j => g 4 j (by decide)) (fun j => g 2 j (by decide)) (g 3 1 (by decide)), e, e8, e17, (g 3 5 (by decide)).trans p.2.2.2.2.1, hT, hC, hI, (g 3 7 (by decide)).trans p.2.2.2.2.2.2.2.2.1, (g 3 8 (by decide)).trans p.2.2.2.2.2.2.2.2.2⟩
/-- a number's check: 0 right, else the fault -/
def nck (tp : Int → Int) (n pl lo hi : Int) : Int := if tkn tp n pl = -4 then (if wN tp n pl < lo ∨ hi < wN tp n pl then 2 else 0) else 1
theorem kq_39n (p : PL h tp b n pl T tw hl kn) {lo hi : Int} (hl0 : lo ≤ 9999) (hh : hi ≤ 9999) (d : Nat) : C (d + 1) 39 [(2, 3), (0, lo), (0, hi)] h = (if nck tp n pl lo hi = 0 then some ((0, 1), h) else some ((0, 0), st (st h 3 7 (nck tp n pl lo hi)) 3 8 pl)) ∧ (nck tp n pl lo hi = 0 → ld h 4 5 = wN tp n pl ∧ lo ≤ wN tp n pl ∧ wN tp n pl ≤ hi) := by
  have ps := p.1
  obtain ⟨r, t, hb, e1, g3, g4, g5, g6, g7⟩ := id ps
  rw [kq_39 ps hh d]
  unfold nck
  by_cases q : tkn tp n pl = -4
  · obtain ⟨c1, c2, c3⟩ := (tkn_c tp n pl).2.2.1 q
    have hv := g7 c1 c2 c3
    have iff : (ld h 4 5 < lo ∨ hi < ld h 4 5) = (wN tp n pl < lo ∨ hi < wN tp n pl) := by
      rw [← hv]; unfold imin; apply propext; split <;> omega
    simp only [if_pos q, iff]
    by_cases z : wN tp n pl < lo ∨ hi < wN tp n pl
    · simp only [if_pos z]; exact ⟨by rw [if_neg (by decide)], fun y => by omega⟩
    · simp only [if_neg z]
      refine ⟨by rw [if_pos trivial], fun _ => ⟨?_, by omega, by omega⟩⟩
      rw [← hv] at z ⊢; unfold imin at z ⊢; split at z <;> omega
  · simp only [if_neg q]
    exact ⟨by rw [if_neg (by decide)], fun y => by omega⟩
/-- a feature -/
def lnFea (tp : Int → Int) (n : Int) (T : Wd) (tw hl kn pl : Int) : LnR :=
  if ¬ T 0 0 < 5 then .error (2, pl) else
  let p1 := adv tp n pl
  if ¬ tkn tp n p1 = -3 then .error (1, p1) else if ¬ tFeat T (wL tp n p1) = -1 then .error (3, p1) else
  let p2 := adv tp n p1
  if ¬ nck tp n p2 1 99 = 0 then .error (nck tp n p2 1 99, p2) else
  let p3 := adv tp n p2
  if ¬ nck tp n p3 1 9 = 0 then .error (nck tp n p3 1 9, p3) else
  .ok (tFea T (wL tp n p1) (wN tp n p2) (wN tp n p3), tw, hl, kn, adv tp n p3)
theorem TOK_fea (hT : TOK T) (h5 : T 0 0 < 5) {u v x : Int} (hv : 1 ≤ v ∧ v ≤ 99) (hx : 1 ≤ x ∧ x ≤ 9) : TOK (tFea T u v x) := by
  obtain ⟨t0, t1, t2, t3, t4, t5, t6⟩ := hT
  have e0 : tFea T u v x 0 0 = T 0 0 + 1 := rfl
  refine ⟨by rw [e0]; omega, t1, t2, t3, fun p p0 p1 => ?_, t5, fun f f0 f1 => ?_⟩
  · obtain ⟨a, b, c⟩ := t4 p p0 p1
    exact ⟨a, ⟨b.1, by rw [e0]; have : tFea T u v x 13 p = T 13 p := rfl; omega⟩, c⟩
  · rw [e0] at f1
    have e5 : tFea T u v x 5 f = if f = T 0 0 then v else T 5 f := by simp [tFea]
    have e6 : tFea T u v x 6 f = if f = T 0 0 then x else T 6 f := by simp [tFea]
    rw [e5, e6]
    by_cases q : f = T 0 0
    · simp only [if_pos q]; exact ⟨hv, hx⟩
    · simp only [if_neg q]; exact t6 f f0 (by omega)
theorem I32_fea (hI : ∀ f i, I32 (T f i)) (h5 : 0 ≤ T 0 0 ∧ T 0 0 < 5) {u v x : Int} (hu : I32 u) (hv : I32 v) (hx : I32 x) : ∀ f i, I32 (tFea T u v x f i) := fun f i => by
  unfold tFea
  split
  · exact I32_of (by omega)
  split
  · exact hu
  split
  · exact hv
  split
  · exact hx
  · exact hI f i
theorem lxL_I (tp : Int → Int) (pl : Int) : ∀ (n : Nat) (i v : Int), I32 v → I32 (lxL tp pl n i v)
  | 0, _, _, h => h
  | n + 1, i, v, h => by
    unfold lxL
    refine lxL_I tp pl n _ _ ?_
    split
    · exact or32_I _ _
    · exact h
theorem wL_I (tp : Int → Int) (n pl : Int) : I32 (wL tp n pl) := lxL_I tp pl _ _ _ (I32_of (by decide))
theorem kq_36 (p : PL h tp b n pl T tw hl kn) (d : Nat) : ∃ r h', C (d + 7) 36 [(2, 3)] h = some ((0, r), h') ∧ FrP b h h' ∧ LnA tp b n r h' (lnFea tp n T tw hl kn pl) := by
  obtain ⟨ps, pt, p8, p17, p5, pT, pC, pI, -⟩ := id p
  have w := ps.1.1
  have hb := ps.2.2.1
  have eb := ps.2.2.2.1
  have t0 : ld h b 0 = T 0 0 := congrFun (congrFun pt 0) 0
  unfold lnFea
  rw [ce_36, e36_0, if_pos (F_a3 w), eb, if_pos (bfF0 w hb), t0]
  by_cases q : T 0 0 < 5
  · rw [if_pos q, if_neg (fun z => z q), e36_17, if_pos (F_a3 w), P3_0 w, if_pos (F_a4 w)]
    obtain ⟨h1, a1, f1, l1⟩ := PL_adv p d
    have ps1 := l1.1
    have w1 := ps1.1.1
    have eb1 := ps1.2.2.2.1
    dsimp only
    rw [Cl_eq _ a1, if_pos (F_a3 w1), P3_0 w1, if_pos (F_a4 w1), e36_32, if_pos (F_a3 w1), eb1, if_pos (bfF0 w1 hb), Cl_eq _ (kq_70 w1 hb (by rw [l1.2.1]; exact pT) (d + 6) _), if_pos (F_a3 w1), Cl_eq _ (show C (d + 6) 38 [(2, 3), (0, tFeat (tC h1 b) (ld h1 4 6))] h1 = some ((0, if tkn tp n (adv tp n pl) = -3 ∧ tFeat T (wL tp n (adv tp n pl)) = -1 then 1 else 0), if tkn tp n (adv tp n pl) = -3 ∧ tFeat T (wL tp n (adv tp n pl)) = -1 then h1 else st (st h1 3 7 (if tkn tp n (adv tp n pl) = -3 then 3 else 1)) 3 8 (adv tp n pl)) by
      rw [kq_38 ps1 _ (d + 5), l1.2.1]
      by_cases z : tkn tp n (adv tp n pl) = -3
      · obtain ⟨c1, c2⟩ := (tkn_c tp n (adv tp n pl)).2.1 z
        rw [ps1.2.2.2.2.2.2.2.1 c1 c2]
        by_cases z2 : tFeat T (wL tp n (adv tp n pl)) = -1
        · simp only [z, z2, and_self, if_true]
        · simp only [z, z2, and_false, if_true, if_false]
      · simp only [z, false_and, if_false])]
    by_cases z : tkn tp n (adv tp n pl) = -3
    · by_cases z2 : tFeat T (wL tp n (adv tp n pl)) = -1
      · simp only [if_pos (show tkn tp n (adv tp n pl) = -3 ∧ tFeat T (wL tp n (adv tp n pl)) = -1 from ⟨z, z2⟩)]
        rw [if_neg (by decide), if_neg (fun y => y z), if_neg (fun y => y z2)]
        obtain ⟨h2, a2, f2, l2⟩ := PL_adv l1 d
        have w2 := l2.1.1.1
        have eb2 := l2.1.2.2.2.1
        obtain ⟨c1, c2⟩ := (tkn_c tp n (adv tp n pl)).2.1 z
        have hnm : ld h1 4 6 = wL tp n (adv tp n pl) := ps1.2.2.2.2.2.2.2.1 c1 c2
        obtain ⟨n2, m2⟩ := kq_39n l2 (lo := 1) (hi := 99) (by decide) (by decide) (d + 5)
        rw [e36_49, if_pos (F_a3 w1), P3_0 w1, if_pos (F_a4 w1), Cl_eq _ a2, if_pos (F_a3 w2), P3_0 w2, if_pos (F_a4 w2), e36_64, if_pos (F_a3 w2)]
        by_cases y2 : nck tp n (adv tp n (adv tp n pl)) 1 99 = 0
        · rw [if_pos y2] at n2
          obtain ⟨v2, b2⟩ := m2 y2
          rw [Cl_eq _ n2, if_neg (by decide), if_neg (fun y => y y2)]
          obtain ⟨h3, a3, f3, l3⟩ := PL_adv l2 d
          have w3 := l3.1.1.1
          have eb3 := l3.1.2.2.2.1
          obtain ⟨n3', m3⟩ := kq_39n l3 (lo := 1) (hi := 9) (by decide) (by decide) (d + 5)
          rw [e36_76, if_pos (F_a3 w2), P3_0 w2, if_pos (F_a4 w2), Cl_eq _ a3, if_pos (F_a3 w3)]
          by_cases y3 : nck tp n (adv tp n (adv tp n (adv tp n pl))) 1 9 = 0
          · rw [if_pos y3] at n3'
            obtain ⟨v3, b3⟩ := m3 y3
            rw [Cl_eq _ n3', if_neg (by decide), if_neg (fun y => y y3)]
            have t3 : ld h3 b 0 = T 0 0 := congrFun (congrFun l3.2.1 0) 0
            obtain ⟨h4, a4, f4, e4, e48, e417, lw4⟩ := kq_73 w3 hb (by rw [t3]; exact ⟨pT.1.1, q⟩) (wL tp n (adv tp n pl)) (wN tp n (adv tp n (adv tp n pl))) (wN tp n (adv tp n (adv tp n (adv tp n pl)))) (d + 6)
            rw [l3.2.1] at e4
            have l4 : PL h4 tp b n (adv tp n (adv tp n (adv tp n pl))) (tFea T (wL tp n (adv tp n pl)) (wN tp n (adv tp n (adv tp n pl))) (wN tp n (adv tp n (adv tp n (adv tp n pl))))) tw hl kn :=
              PL_bk l3 f4 e4 (e48.trans l3.2.2.1) (e417.trans l3.2.2.2.1) (TOK_fea pT q b2 b3) (CB_of l3.2.2.2.2.2.2.1 lw4) (I32_fea pI ⟨pT.1.1, q⟩ (wL_I _ _ _) (I32_of (by omega)) (I32_of (by omega)))
            obtain ⟨h5, a5, f5, l5⟩ := PL_adv l4 d
            have w4 := l4.1.1.1
            refine ⟨1, h5, ?_, FrP_tr f1 (FrP_tr f2 (FrP_tr f3 (FrP_tr (FrP_B f4) f5))), rfl, l5⟩
            rw [e36_95, if_pos (F_a3 w3), if_pos (F_a3 w3), P3_0 w3, if_pos (F_a4 w3), eb3, if_pos (bfF0 w3 hb), hnm, v2, v3, Cl_eq _ a4, e36_111, if_pos (F_a3 w4), P3_0 w4, if_pos (F_a4 w4), Cl_eq _ a5, if_pos (by decide)]
          · rw [if_neg y3] at n3'
            rw [Cl_eq _ n3', if_pos rfl, if_pos y3, e36_93, if_pos (by decide)]
            obtain ⟨g1, g2⟩ := LnA_f l3 (nck tp n (adv tp n (adv tp n (adv tp n pl))) 1 9)
            exact ⟨0, _, rfl, FrP_tr f1 (FrP_tr f2 (FrP_tr f3 g1)), g2⟩
        · rw [if_neg y2] at n2
          rw [Cl_eq _ n2, if_pos rfl, if_pos y2, e36_74, if_pos (by decide)]
          obtain ⟨g1, g2⟩ := LnA_f l2 (nck tp n (adv tp n (adv tp n pl)) 1 99)
          exact ⟨0, _, rfl, FrP_tr f1 (FrP_tr f2 g1), g2⟩
      · simp only [if_neg (show ¬ (tkn tp n (adv tp n pl) = -3 ∧ tFeat T (wL tp n (adv tp n pl)) = -1) from fun y => z2 y.2), if_pos z]
        rw [if_pos trivial, if_neg (fun y => y z), if_pos z2, e36_47, if_pos (by decide)]
        obtain ⟨g1, g2⟩ := LnA_f l1 3
        exact ⟨0, _, rfl, FrP_tr f1 g1, g2⟩
    · simp only [if_neg (show ¬ (tkn tp n (adv tp n pl) = -3 ∧ tFeat T (wL tp n (adv tp n pl)) = -1) from fun y => z y.1), if_neg z]
      rw [if_pos trivial, if_pos z, e36_47, if_pos (by decide)]
      obtain ⟨g1, g2⟩ := LnA_f l1 1
      exact ⟨0, _, rfl, FrP_tr f1 g1, g2⟩
  · rw [if_neg q, if_pos q, e36_11, if_pos (F_a3 w), Cl_eq _ (kq_35 ps 2 (d + 6)).1, if_pos (by decide)]
    obtain ⟨g1, g2⟩ := LnA_f p 2
    exact ⟨0, _, rfl, g1, g2⟩
end LN
