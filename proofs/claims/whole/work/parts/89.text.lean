/-! layer 2: a whole text is read -/
abbrev RdR := Except (Int × Int × Int) (Wd × Int × Int × Int × Int)
def lnX (tp : Int → Int) (n : Int) (T : Wd) (tw hl kn pl : Int) : LnR :=
  if tkn tp n pl = -21 then lnFea tp n T tw hl kn pl else if tkn tp n pl = -22 then lnSit tp n T tw hl kn pl else if tkn tp n pl = -23 then lnWan tp n T tw hl kn pl
  else if tkn tp n pl = -24 then lnKin tp n T tw hl kn pl else if tkn tp n pl = -25 then lnTwi tp n T tw hl kn pl else if tkn tp n pl = -26 then lnHei tp n T tw hl kn pl
  else if tkn tp n pl = -27 then lnHai tp n T tw hl kn pl else if tkn tp n pl = -28 then lnLaw tp n T tw hl kn pl else .error (1, pl)
def rdL (tp : Int → Int) (n : Int) : Nat → Wd → Int → Int → Int → Int → Int → RdR
  | 0, T, tw, hl, kn, _, ln => .ok (T, tw, hl, kn, ln)
  | m + 1, T, tw, hl, kn, pl, ln => if tkn tp n pl = -1 then .ok (T, tw, hl, kn, ln) else
    match lnX tp n T tw hl kn pl with
    | .error (k, pc) => .error (k, pc, ln)
    | .ok (T', tw', hl', kn', p') => if tkn tp n p' = -5 then rdL tp n m T' tw' hl' kn' (adv tp n p') (ln + 1) else .error (1, p', ln)
def RdA (b r : Int) (h' : Hp) : RdR → Prop
  | .error (k, pc, ln) => r = 0 ∧ ld h' 3 7 = k ∧ ld h' 3 8 = pc ∧ ld h' 3 6 = ln
  | .ok (T, _, _, _, ln) => r = 1 ∧ ld h' 3 7 = 0 ∧ ld h' 3 8 = -1 ∧ ld h' 3 6 = ln ∧ tC h' b = T ∧ TOK T ∧ CB h' b ∧ ∀ f i, I32 (T f i)
def FrD (b : Int) (h h' : Hp) : Prop := WF h' ∧ (h'.2 = h.2 ∧ NB h') ∧ ∀ a j : Int, ¬ (b ≤ a ∧ a < b + 30) → a ≠ 4 → ¬ (a = 3 ∧ j ≠ 0 ∧ j ≠ 2) → ¬ a = 36 → ld h' a j = ld h a j
theorem FrD_tr {b : Int} {h h1 h2 : Hp} (f : FrD b h h1) (g : FrD b h1 h2) : FrD b h h2 := ⟨g.1, ⟨g.2.1.1.trans f.2.1.1, g.2.1.2⟩, fun a j e1 e2 e3 e4 => (g.2.2 a j e1 e2 e3 e4).trans (f.2.2 a j e1 e2 e3 e4)⟩
theorem FrD_P {b : Int} {h h' : Hp} (f : FrP b h h') (hb : b ∈ BKL) (nb : NB h) : FrD b h h' := ⟨f.1, ⟨f.2.1.1, f.2.1.2 hb nb⟩, fun a j e1 e2 e3 e4 => f.2.2 a j e1 (fun z => e2 z.1) (fun z => e3 ⟨z.1, z.2.1, z.2.2.2.1⟩) e4⟩
def INV (tw kn : Int) : Prop := 0 ≤ tw ∧ 0 ≤ kn ∧ kn ≤ 64
def LnI : LnR → Prop
  | .error _ => True
  | .ok (_, tw, _, kn, _) => INV tw kn
section LI
variable {tp : Int → Int} {n pl : Int} {T : Wd} {tw hl kn : Int}
theorem LnI_ite {c : Prop} [Decidable c] {A B : LnR} (a : LnI A) (b : LnI B) : LnI (if c then A else B) := by split <;> assumption
theorem haL_I (i : INV tw kn) : ∀ (m : Nat) (k : Int) (T : Wd) (pl : Int), LnI (haL tp n tw kn m k T pl)
  | 0, _, _, _ => i
  | m + 1, k, T, pl => by
    unfold haL
    exact LnI_ite (LnI_ite trivial (haL_I i m _ _ _)) i
def CsI : CsR → Prop
  | .error _ => True
  | .ok (_, _, _, kn) => 0 ≤ kn ∧ kn ≤ 64
theorem CsI_ite {c : Prop} [Decidable c] {A B : CsR} (a : c → CsI A) (b : ¬ c → CsI B) : CsI (if c then A else B) := by
  split
  · rename_i z; exact a z
  · rename_i z; exact b z
theorem opd_I {k : Nat} {W : List Int} {op : Int} (i : 0 ≤ kn ∧ kn ≤ 64) : CsI (clOpd tp n k T W op kn pl) := by
  unfold clOpd
  refine CsI_ite (fun _ => CsI_ite (fun _ => trivial) (fun _ => i)) (fun _ => CsI_ite (fun _ => CsI_ite (fun _ => trivial) (fun _ => CsI_ite (fun q => ?_) (fun _ => trivial))) (fun _ => CsI_ite (fun _ => trivial) (fun _ => CsI_ite (fun _ => trivial) (fun _ => CsI_ite (fun q => ?_) (fun _ => trivial)))))
  · show 0 ≤ kn + 1 ∧ kn + 1 ≤ 64; omega
  · show 0 ≤ kn + 1 ∧ kn + 1 ≤ 64; omega
theorem opr_I {k : Nat} {W : List Int} {op : Int} (i : 0 ≤ kn ∧ kn ≤ 64) : CsI (clOpr tp n k T W op kn pl) := by
  unfold clOpr
  refine CsI_ite (fun _ => trivial) (fun _ => CsI_ite (fun q => ?_) (fun _ => trivial))
  show 0 ≤ kn + 1 ∧ kn + 1 ≤ 64; omega
theorem clL_I {k : Nat} (htw : 0 ≤ tw) : ∀ (m : Nat) (due : Bool) (T : Wd) (W : List Int) (op kn pl : Int), 0 ≤ kn ∧ kn ≤ 64 → LnI (clL tp n k tw hl m due T W op kn pl)
  | 0, _, _, _, _, _, _, _ => trivial
  | m + 1, due, T, W, op, kn, pl, i => by
    unfold clL
    refine LnI_ite ?_ (LnI_ite ?_ (LnI_ite (clL_I htw m _ _ _ _ _ _ i) (LnI_ite ⟨htw, i⟩ trivial)))
    · have := opd_I (tp := tp) (n := n) (pl := pl) (T := T) (k := k) (W := W) (op := op) i
      generalize clOpd tp n k T W op kn pl = R at *
      cases R with
      | error e => trivial
      | ok v => exact clL_I htw m _ _ _ _ _ _ this
    · have := opr_I (tp := tp) (n := n) (pl := pl) (T := T) (k := k) (W := W) (op := op) i
      generalize clOpr tp n k T W op kn pl = R at *
      cases R with
      | error e => trivial
      | ok v => exact clL_I htw m _ _ _ _ _ _ this
theorem lnX_I (i : INV tw kn) : LnI (lnX tp n T tw hl kn pl) := by
  have t : ∀ e, LnI (.error e) := fun _ => trivial
  unfold lnX
  refine LnI_ite ?_ (LnI_ite ?_ (LnI_ite ?_ (LnI_ite ?_ (LnI_ite ?_ (LnI_ite ?_ (LnI_ite ?_ (LnI_ite ?_ (t _))))))))
  · unfold lnFea; exact LnI_ite (t _) (LnI_ite (t _) (LnI_ite (t _) (LnI_ite (t _) (LnI_ite (t _) i))))
  · unfold lnSit; exact LnI_ite (t _) (LnI_ite (t _) (LnI_ite (t _) (LnI_ite (t _) (LnI_ite (t _) i))))
  · unfold lnWan; exact LnI_ite (t _) (LnI_ite (t _) (LnI_ite (t _) (LnI_ite (t _) (LnI_ite (t _) i))))
  · unfold lnKin; exact LnI_ite (t _) (LnI_ite (t _) (LnI_ite (t _) (LnI_ite (t _) (LnI_ite (t _) i))))
  · unfold lnTwi; exact LnI_ite (t _) (LnI_ite (t _) (LnI_ite (t _) (LnI_ite (t _) (LnI_ite (t _) (LnI_ite (t _) (by have := i.1; exact ⟨by omega, i.2⟩))))))
  · unfold lnHei
    repeat (first | exact i | exact t _ | refine LnI_ite ?_ ?_)
  · unfold lnHai; exact LnI_ite (t _) (LnI_ite (t _) (haL_I i _ _ _ _))
  · unfold lnLaw; exact LnI_ite (t _) (LnI_ite (t _) (clL_I i.1 _ _ _ _ _ _ _ i.2))
end LI
section RT
variable {h : Hp} {tp : Int → Int} {b n : Int}
theorem tk_so {t : Int} (ht : -38 ≤ t ∧ t ≤ -1) : (tokFd.getD (-1 - t).toNat []).getD 3 0 = -1 - t := by
  have := of_decide_eq_true (List.all_eq_true.mp (show (List.range 38).all (fun k => decide ((tokFd.getD k []).getD 3 0 = (k : Int))) = true by decide +kernel) (-1 - t).toNat (List.mem_range.mpr (by omega)))
  omega
theorem lnA_r {tp : Int → Int} {b n r : Int} {h' : Hp} {R : LnR} (g : LnA tp b n r h' R) : r = 0 ∨ r = 1 := by
  cases R with
  | error e => exact Or.inl g.1
  | ok v => exact Or.inr g.1
theorem rd_loop (d : Nat) : ∀ (m : Nat) (T : Wd) (tw hl kn pl x : Int) (h : Hp), PL h tp b n pl T tw hl kn → NB h → ld h 3 6 = x → INV tw kn → 0 ≤ x → x + m = 701 → ∃ r h', V (d + 9) 34 44 [(2, 3), (9, 0), (9, 0), (9, 0), (0, x), (9, 0)] [] h = some ((0, r), h') ∧ FrD b h h' ∧ RdA b r h' (rdL tp n m T tw hl kn pl x) := by
  intro m
  induction m with
  | zero =>
    intro T tw hl kn pl x h p nb h6 i x0 hx
    obtain ⟨ps, pt, p8, p17, p5, pT, pC, pI, q7, q8⟩ := id p
    exact ⟨1, h, by rw [e34_44, if_pos (by omega), e34_252, if_pos (by decide)], FrD_P (FrP_rf ps.1.1) ps.2.2.1 nb, rfl, q7, q8, h6, pt, pT, pC, pI⟩
  | succ m ih =>
    intro T tw hl kn pl x h p nb h6 i x0 hx
    obtain ⟨ps, pt, p8, p17, p5, pT, pC, pI, q7, q8⟩ := id p
    have w := ps.1.1
    have hb := ps.2.2.1
    have g3 := ps.2.2.2.2.1
    have it := isT p
    have tb := (tkn_c tp n pl).1
    unfold rdL
    rw [e34_44, if_neg (by omega), if_pos (F_a3 w), P3_0 w, if_pos (F_a4 w), g3, if_pos ⟨it, by decide⟩]
    by_cases q1 : tkn tp n pl = -1
    · rw [if_pos q1, if_pos q1, e34_252, if_pos (by decide)]
      exact ⟨1, h, rfl, FrD_P (FrP_rf w) hb nb, rfl, q7, q8, h6, pt, pT, pC, pI⟩
    rw [if_neg q1, if_neg q1, e34_65, if_pos (F_a3 w), P3_0 w, if_pos (F_a4 w), g3, if_pos (tk_F tb), Cl_eq _ (kq_241 (tk_F tb) _), tk_ld w tb 3, if_pos (sw_F (h := h)).1, (sw_F (h := h)).2, show (3 : Int).toNat = 3 from rfl, tk_so tb, if_pos (by omega), sw_ld w]
    have iR := lnX_I (tp := tp) (n := n) (T := T) (hl := hl) (pl := pl) i
    have fin : ∀ (r : Int) (h1 : Hp), FrP b h h1 → LnA tp b n r h1 (lnX tp n T tw hl kn pl) → ∃ r' h', V (d + 9) 34 203 [(2, 3), (9, 0), (9, 0), (9, 0), (0, x), (0, r)] [] h1 = some ((0, r'), h') ∧ FrD b h h' ∧ RdA b r' h' (match lnX tp n T tw hl kn pl with
      | .error (k, pc) => .error (k, pc, x)
      | .ok (T', tw', hl', kn', p') => if tkn tp n p' = -5 then rdL tp n m T' tw' hl' kn' (adv tp n p') (x + 1) else .error (1, p', x)) := by
      intro r h1 f1 g
      have fd1 := FrD_P f1 hb nb
      have h61 : ld h1 3 6 = x := (f1.2.2 3 6 (by rcases bk_b hb with rfl | rfl <;> omega) (by decide) (by omega) (by decide)).trans h6
      generalize lnX tp n T tw hl kn pl = R at *
      cases R with
      | error e =>
        obtain ⟨k, pc⟩ := e
        obtain ⟨g1, g2, g4⟩ := g
        rw [g1, e34_203, if_pos rfl, if_pos (by decide)]
        exact ⟨0, h1, rfl, fd1, rfl, g2, g4, h61⟩
      | ok v =>
        obtain ⟨T', tw', hl', kn', p'⟩ := v
        obtain ⟨g1, l1⟩ := g
        have w1 := l1.1.1.1
        have it1 := isT l1
        rw [g1, e34_203, if_neg (by decide), e34_210, if_pos (F_a3 w1), P3_0 w1, if_pos (F_a4 w1), l1.1.2.2.2.2.1, if_pos ⟨it1, by decide⟩]
        dsimp only
        by_cases q5 : tkn tp n p' = -5
        · obtain ⟨h2, a2, f2, l2⟩ := PL_adv l1 (d + 2)
          have w2 := l2.1.1.1
          have h62 : ld h2 3 6 = x := (f2.2.2 3 6 (by rcases bk_b hb with rfl | rfl <;> omega) (by decide) (by omega) (by decide)).trans h61
          have wx : w32 (x + 1) = x + 1 := by unfold w32; omega
          have e3 : ∀ j, j ≠ 6 → ld (st h2 3 6 (x + 1)) 3 j = ld h2 3 j := fun j z => ld_st_ne (Or.inr z)
          have ea : ∀ a j, a ≠ 3 → ld (st h2 3 6 (x + 1)) a j = ld h2 a j := fun a j z => ld_st_ne (Or.inl z)
          have w3 : WF (st h2 3 6 (x + 1)) := wf_st w2 (n3 (by decide) (by decide))
          have l3 : PL (st h2 3 6 (x + 1)) tp b n (adv tp n p') T' tw' hl' kn' := by
            obtain ⟨p1, p2, p3, p4, p5, p6, p7, p8, p9, p10⟩ := id l2
            have eo : ∀ off : Int, 0 ≤ off → ∀ k, ld (st h2 3 6 (x + 1)) (b + off) k = ld h2 (b + off) k := fun off o k => ea _ _ (by rcases bk_b hb with rfl | rfl <;> omega)
            have e0 : ∀ k, ld (st h2 3 6 (x + 1)) b k = ld h2 b k := fun k => ea _ _ (by rcases bk_b hb with rfl | rfl <;> omega)
            exact ⟨PS_keep p1 w3 (fun j => ea 4 j (by decide)) (fun j => ea 2 j (by decide)) (e3 1 (by decide)), (tC_eq (fun i j0 _ _ _ _ k => eo i j0 k)).trans p2, (e0 8).trans p3, (e0 17).trans p4, (e3 5 (by decide)).trans p5, p6, CB_of p7 (fun off o1 _ i => eo off (by omega) i), p8, (e3 7 (by decide)).trans p9, (e3 8 (by decide)).trans p10⟩
          have fd2 := FrD_P f2 hb fd1.2.1.2
          have nb3 : NB (st h2 3 6 (x + 1)) := by have := fd2.2.1.2; unfold NB at this ⊢; rw [ea 4 5 (by decide)]; exact this
          have fd3 : FrD b h2 (st h2 3 6 (x + 1)) := ⟨w3, ⟨rfl, nb3⟩, fun a j _ _ e _ => ld_st_ne (by omega)⟩
          obtain ⟨r', h', a, f, g⟩ := ih T' tw' hl' kn' (adv tp n p') (x + 1) _ l3 nb3 (ld_st_eq _ _ _ _) iR (by omega) (by omega)
          refine ⟨r', h', ?_, FrD_tr fd1 (FrD_tr fd2 (FrD_tr fd3 f)), by rw [if_pos q5]; exact g⟩
          rw [if_pos q5, e34_229, if_pos (F_a3 w1), P3_0 w1, if_pos (F_a4 w1), Cl_eq _ a2, if_pos (F_a3 w2), if_pos (W_a3 w2), h62, wx, e34_246, wx]
          exact a
        · rw [if_neg q5, if_neg q5, if_pos (F_a3 w1), Cl_eq _ (kq_35 l1.1 1 (d + 8)).1, if_pos (by decide)]
          obtain ⟨gf, g2, g4, g5⟩ := LnA_f l1 1
          exact ⟨0, _, rfl, FrD_tr fd1 (FrD_P gf hb fd1.2.1.2), rfl, g4, g5, ((gf.2.2 3 6 (by rcases bk_b hb with rfl | rfl <;> omega) (by decide) (by omega) (by decide)).trans h61)⟩
    by_cases t21 : tkn tp n pl = -21
    · obtain ⟨r, h1, a, f, g⟩ := kq_36 p (d + 1)
      obtain ⟨r', h', a', f', g'⟩ := fin r h1 f (by unfold lnX; rw [if_pos t21]; exact g)
      refine ⟨r', h', ?_, f', g'⟩
      rw [t21, if_pos (by decide), e34_124, if_pos (F_a3 w), Cl_eq _ a]; exact a'
    by_cases t22 : tkn tp n pl = -22
    · obtain ⟨r, h1, a, f, g⟩ := kq_37 p (d + 1)
      obtain ⟨r', h', a', f', g'⟩ := fin r h1 f (by unfold lnX; rw [if_neg t21, if_pos t22]; exact g)
      refine ⟨r', h', ?_, f', g'⟩
      rw [t22, if_neg (by decide), if_pos (by decide), e34_133, if_pos (F_a3 w), Cl_eq _ a]; exact a'
    by_cases t23 : tkn tp n pl = -23
    · obtain ⟨r, h1, a, f, g⟩ := kq_43 p d
      obtain ⟨r', h', a', f', g'⟩ := fin r h1 f (by unfold lnX; rw [if_neg t21, if_neg t22, if_pos t23]; exact g)
      refine ⟨r', h', ?_, f', g'⟩
      rw [t23, if_neg (by decide), if_neg (by decide), if_pos (by decide), e34_142, if_pos (F_a3 w), Cl_eq _ a]; exact a'
    by_cases t24 : tkn tp n pl = -24
    · obtain ⟨r, h1, a, f, g⟩ := kq_44 p d
      obtain ⟨r', h', a', f', g'⟩ := fin r h1 f (by unfold lnX; rw [if_neg t21, if_neg t22, if_neg t23, if_pos t24]; exact g)
      refine ⟨r', h', ?_, f', g'⟩
      rw [t24, if_neg (by decide), if_neg (by decide), if_neg (by decide), if_pos (by decide), e34_151, if_pos (F_a3 w), Cl_eq _ a]; exact a'
    by_cases t25 : tkn tp n pl = -25
    · obtain ⟨r, h1, a, f, g⟩ := kq_45 p i.1 d
      obtain ⟨r', h', a', f', g'⟩ := fin r h1 f (by unfold lnX; rw [if_neg t21, if_neg t22, if_neg t23, if_neg t24, if_pos t25]; exact g)
      refine ⟨r', h', ?_, f', g'⟩
      rw [t25, if_neg (by decide), if_neg (by decide), if_neg (by decide), if_neg (by decide), if_pos (by decide), e34_160, if_pos (F_a3 w), Cl_eq _ a]; exact a'
    by_cases t26 : tkn tp n pl = -26
    · obtain ⟨r, h1, a, f, g⟩ := kq_46 p d
      obtain ⟨r', h', a', f', g'⟩ := fin r h1 f (by unfold lnX; rw [if_neg t21, if_neg t22, if_neg t23, if_neg t24, if_neg t25, if_pos t26]; exact g)
      refine ⟨r', h', ?_, f', g'⟩
      rw [t26, if_neg (by decide), if_neg (by decide), if_neg (by decide), if_neg (by decide), if_neg (by decide), if_pos (by decide), e34_169, if_pos (F_a3 w), Cl_eq _ a]; exact a'
    by_cases t27 : tkn tp n pl = -27
    · obtain ⟨r, h1, a, f, g⟩ := kq_47 p d
      obtain ⟨r', h', a', f', g'⟩ := fin r h1 f (by unfold lnX; rw [if_neg t21, if_neg t22, if_neg t23, if_neg t24, if_neg t25, if_neg t26, if_pos t27]; exact g)
      refine ⟨r', h', ?_, f', g'⟩
      rw [t27, if_neg (by decide), if_neg (by decide), if_neg (by decide), if_neg (by decide), if_neg (by decide), if_neg (by decide), if_pos (by decide), e34_178, if_pos (F_a3 w), Cl_eq _ a]; exact a'
    by_cases t28 : tkn tp n pl = -28
    · obtain ⟨r, h1, a, f, g⟩ := kq_48 p i.2 d
      obtain ⟨r', h', a', f', g'⟩ := fin r h1 f (by unfold lnX; rw [if_neg t21, if_neg t22, if_neg t23, if_neg t24, if_neg t25, if_neg t26, if_neg t27, if_pos t28]; exact g)
      refine ⟨r', h', ?_, f', g'⟩
      rw [t28, if_neg (by decide), if_neg (by decide), if_neg (by decide), if_neg (by decide), if_neg (by decide), if_neg (by decide), if_neg (by decide), if_pos (by decide), e34_187, if_pos (F_a3 w), Cl_eq _ a]; exact a'
    have hsw := of_decide_eq_true (List.all_eq_true.mp (show (List.range 38).all (fun k => decide ((20 ≤ k ∧ k ≤ 27) ∨ ¬ (1 ≤ swm.getD k 0 ∧ swm.getD k 0 ≤ 8))) = true by decide +kernel) (-1 - tkn tp n pl).toNat (List.mem_range.mpr (by omega)))
    have sw : ¬ (1 ≤ swm.getD (-1 - tkn tp n pl).toNat 0 ∧ swm.getD (-1 - tkn tp n pl).toNat 0 ≤ 8) := by
      rcases hsw with y | y
      · omega
      · exact y
    obtain ⟨gf, gr⟩ := LnA_f p 1
    obtain ⟨r', h', a', f', g'⟩ := fin 0 _ gf (by unfold lnX; rw [if_neg t21, if_neg t22, if_neg t23, if_neg t24, if_neg t25, if_neg t26, if_neg t27, if_neg t28]; exact gr)
    refine ⟨r', h', ?_, f', g'⟩
    generalize swm.getD (-1 - tkn tp n pl).toNat 0 = u at *
    rw [if_neg (by omega), if_neg (by omega), if_neg (by omega), if_neg (by omega), if_neg (by omega), if_neg (by omega), if_neg (by omega), if_neg (by omega), e34_196, if_pos (F_a3 w), Cl_eq _ (kq_35 p.1 1 (d + 8)).1]
    exact a'
theorem kq_34 (w : WF h) (hb : b ∈ BKL) (nb : NB h) (hn : 0 ≤ n ∧ n ≤ 700) (d : Nat) : ∃ r h', C (d + 9) 34 [(2, 3), (2, 2), (0, n), (2, b)] h = some ((0, r), h') ∧ FrD b h h' ∧ RdA b r h' (rdL (tpC h) n 701 (fun _ _ => 0) 0 0 0 (lxP (tpC h) n 0) 0) := by
  have hb2 : b = 37 ∨ b = 67 := bk_b hb
  have w0 : WF (st h 3 1 b) := wf_st w (n3 (by decide) (by decide))
  obtain ⟨h1, a1, f1, e1, e8, e17, c0, c1, c2⟩ := kq_65 w0 hb (d + 8)
  have w1 := f1.1
  have w2 : WF (st h1 3 5 0) := wf_st w1 (n3 (by decide) (by decide))
  have w3 : WF (st (st h1 3 5 0) 3 6 0) := wf_st w2 (n3 (by decide) (by decide))
  have w4 : WF (st (st (st h1 3 5 0) 3 6 0) 3 7 0) := wf_st w3 (n3 (by decide) (by decide))
  have w5 : WF (st (st (st (st h1 3 5 0) 3 6 0) 3 7 0) 3 8 (-1)) := wf_st w4 (n3 (by decide) (by decide))
  have eo : ∀ a j, a ≠ 3 → ld (st (st (st (st h1 3 5 0) 3 6 0) 3 7 0) 3 8 (-1)) a j = ld h1 a j := fun a j z => by rw [ld_st_ne (Or.inl z), ld_st_ne (Or.inl z), ld_st_ne (Or.inl z), ld_st_ne (Or.inl z)]
  have g1 : ld (st (st (st (st h1 3 5 0) 3 6 0) 3 7 0) 3 8 (-1)) 3 1 = b := by
    rw [ld_st_ne (Or.inr (by decide)), ld_st_ne (Or.inr (by decide)), ld_st_ne (Or.inr (by decide)), ld_st_ne (Or.inr (by decide)), f1.2.2 3 1 (by omega), ld_st_eq]
  have g5 : ld (st (st (st (st h1 3 5 0) 3 6 0) 3 7 0) 3 8 (-1)) 3 5 = 0 := by
    rw [ld_st_ne (Or.inr (by decide)), ld_st_ne (Or.inr (by decide)), ld_st_ne (Or.inr (by decide)), ld_st_eq]
  have g6 : ld (st (st (st (st h1 3 5 0) 3 6 0) 3 7 0) 3 8 (-1)) 3 6 = 0 := by
    rw [ld_st_ne (Or.inr (by decide)), ld_st_ne (Or.inr (by decide)), ld_st_eq]
  have g7 : ld (st (st (st (st h1 3 5 0) 3 6 0) 3 7 0) 3 8 (-1)) 3 7 = 0 := by
    rw [ld_st_ne (Or.inr (by decide)), ld_st_eq]
  have g8 : ld (st (st (st (st h1 3 5 0) 3 6 0) 3 7 0) 3 8 (-1)) 3 8 = -1 := ld_st_eq _ _ _ _
  have e34 : C (d + 9) 34 [(2, 3), (2, 2), (0, n), (2, b)] h = V (d + 9) 34 32 [(2, 3), (2, 2), (0, n), (9, 0), (9, 0), (9, 0)] [] (st (st (st (st h1 3 5 0) 3 6 0) 3 7 0) 3 8 (-1)) := by
    rw [ce_34, e34_0, if_pos (W_a3 w), if_pos (F_a3 w0), ld_st_eq, if_pos (bfF0 w0 hb), Cl_eq _ a1, e34_12, if_pos (W_a3 w1), if_pos (W_a3 w2), e34_22, if_pos (W_a3 w3), if_pos (W_a3 w4)]
  have f0 : ∀ a j, ¬ (b ≤ a ∧ a < b + 30) → a ≠ 3 → ld (st (st (st (st h1 3 5 0) 3 6 0) 3 7 0) 3 8 (-1)) a j = ld h a j := fun a j z z3 => by rw [eo a j z3, f1.2.2 a j z, ld_st_ne (Or.inl z3)]
  have f3 : ∀ j, (j = 0 ∨ j = 2) → ld (st (st (st (st h1 3 5 0) 3 6 0) 3 7 0) 3 8 (-1)) 3 j = ld h 3 j := fun j z => by
    rw [ld_st_ne (Or.inr (by omega)), ld_st_ne (Or.inr (by omega)), ld_st_ne (Or.inr (by omega)), ld_st_ne (Or.inr (by omega)), f1.2.2 3 j (by omega), ld_st_ne (Or.inr (by omega))]
  have et : tC (st (st (st (st h1 3 5 0) 3 6 0) 3 7 0) 3 8 (-1)) b = fun _ _ => 0 := (tC_eq (fun j j0 _ _ _ _ k => eo _ _ (by omega))).trans e1
  have ec : CB (st (st (st (st h1 3 5 0) 3 6 0) 3 7 0) 3 8 (-1)) b := by
    intro k k0 k3
    have e0 : ld (st (st (st (st h1 3 5 0) 3 6 0) 3 7 0) 3 8 (-1)) (b + 18 + 4 * k) 3 = 0 := by
      rw [eo _ _ (by omega)]
      have hk : k = 0 ∨ k = 1 ∨ k = 2 := by omega
      rcases hk with rfl | rfl | rfl
      · rw [show b + 18 + 4 * (0 : Int) = b + 18 by omega]; exact c0
      · rw [show b + 18 + 4 * (1 : Int) = b + 22 by omega]; exact c1
      · rw [show b + 18 + 4 * (2 : Int) = b + 26 by omega]; exact c2
    rw [e0]
    exact ⟨by decide, fun i i0 i1 => by omega⟩
  have etp : tpC (st (st (st (st h1 3 5 0) 3 6 0) 3 7 0) 3 8 (-1)) = tpC h := funext fun j => f0 2 j (by omega) (by decide)
  have e45 := f0 4 5 (by omega) (by decide)
  generalize hh : st (st (st (st h1 3 5 0) 3 6 0) 3 7 0) 3 8 (-1) = h5 at *
  have nb5 : NB h5 := by unfold NB; rw [e45]; exact nb
  obtain ⟨h6, a6, w6, s6, fr6, ps⟩ := kq_57 w5 hb g1 hn nb5 (d + 1)
  rw [etp] at ps
  have ec6 : CB h6 b := CB_of ec (fun off o1 o2 j => fr6 _ _ (by omega))
  have l6 : PL h6 (tpC h) b n (lxP (tpC h) n 0) (fun _ _ => 0) 0 0 0 := by
    refine ⟨ps, (tC_eq (fun j j0 _ _ _ _ k => fr6 _ _ (by omega))).trans et, ?_, ?_, (fr6 3 5 (by decide)).trans g5, ?_, ec6, fun _ _ => (I32_of (by decide) : I32 0), (fr6 3 7 (by decide)).trans g7, (fr6 3 8 (by decide)).trans g8⟩
    · rw [fr6 b 8 (by omega), eo b 8 (by omega)]; exact e8
    · rw [fr6 b 17 (by omega), eo b 17 (by omega)]; exact e17
    · refine ⟨by decide, by decide, by decide, by decide, fun p p0 p1 => ?_, fun p p0 p1 => ?_, fun p p0 p1 => ?_⟩
      all_goals (have p1 : p < 0 := p1; omega)
  have nb6 : NB h6 := ps.2.2.2.2.2.2.1
  obtain ⟨r, h', a, f, g⟩ := rd_loop (tp := tpC h) (b := b) (n := n) d 701 (fun _ _ => 0) 0 0 0 (lxP (tpC h) n 0) 0 h6 l6 nb6 ((fr6 3 6 (by decide)).trans g6) ⟨by decide, by decide, by decide⟩ (by decide) (by decide)
  refine ⟨r, h', ?_, ?_, g⟩
  · rw [e34, e34_32, if_pos (F_a3 w5), P3_0 w5, if_pos (F_a4 w5), Cl_eq _ a6, e34_41]
    exact a
  · refine FrD_tr ⟨w6, ⟨?_, nb6⟩, fun a j z1 z2 z3 z4 => ?_⟩ f
    · rw [s6, ← hh]; exact f1.2.1
    · rw [fr6 a j z2]
      by_cases z : a = 3
      · rw [z]; exact f3 j (by omega)
      · exact f0 a j z1 z
end RT
