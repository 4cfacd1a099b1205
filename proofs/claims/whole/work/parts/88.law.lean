/-! layer 2: a law is read -/
def clL (tp : Int → Int) (n : Int) (k : Nat) (tw hl : Int) : Nat → Bool → Wd → List Int → Int → Int → Int → LnR
  | 0, _, _, _, _, _, pl => .error (1, pl)
  | m + 1, due, T, W, op, kn, pl =>
    if due = true then (match clOpd tp n k T W op kn pl with
      | .error e => .error e
      | .ok (T', W', op', kn') => clL tp n k tw hl m (decide (tkn tp n pl = -6 ∨ tkn tp n pl = -20)) T' W' op' kn' (adv tp n pl))
    else if ¬ tlev (tkn tp n pl) = 0 ∧ ¬ tkn tp n pl = -20 then (match clOpr tp n k T W op kn pl with
      | .error e => .error e
      | .ok (T', W', op', kn') => clL tp n k tw hl m true T' W' op' kn' (adv tp n pl))
    else if tkn tp n pl = -7 ∧ 0 < op then clL tp n k tw hl m false (rls k 1 W T).1 (rls k 1 W T).2.tail (op - 1) kn (adv tp n pl)
    else if op = 0 then .ok ((rls k 1 W T).1, tw, hl, kn, pl) else .error (1, pl)
def lwK (t : Int) : Nat := if t = -29 then 0 else if t = -30 then 1 else 2
def lnLaw (tp : Int → Int) (n : Int) (T : Wd) (tw hl kn pl : Int) : LnR :=
  let p1 := adv tp n pl
  let t := tkn tp n p1
  if ¬ (-31 ≤ t ∧ t ≤ -29) then .error (1, p1) else
  if 0 < T (19 + lwK t) 0 then .error (3, p1) else
  clL tp n (lwK t) tw hl 701 true T [] 0 kn (adv tp n p1)
section TL
variable {h : Hp} {tp : Int → Int} {b n pl : Int} {T : Wd} {tw hl kn : Int} {W : List Int} {op : Int}
theorem PX_adv (p : PX h tp b n pl T tw hl kn W op) (d : Nat) : ∃ h', C (d + 6) 58 [(2, 4)] h = some ((9, 0), h') ∧ FrP b h h' ∧ PX h' tp b n (adv tp n pl) T tw hl kn W op := by
  obtain ⟨⟨p1, p2, p3, p4, p5, p6, p7, p8, p9, p10⟩, ⟨w1, w2, w3, w4⟩, po⟩ := p
  obtain ⟨h', a, f, q⟩ := PS_adv p1 d
  have hb := p1.2.2.1
  have eo : ∀ off : Int, 0 ≤ off → ∀ j, ld h' (b + off) j = ld h (b + off) j := fun off o j => f.2.2 _ _ (by rcases bk_b hb with rfl | rfl <;> omega)
  have e0 : ∀ j, ld h' b j = ld h b j := fun j => f.2.2 _ _ (by rcases bk_b hb with rfl | rfl <;> omega)
  exact ⟨h', a, FrP_R f q.2.2.2.2.2.2.1, ⟨q, (tC_eq (fun j j0 _ _ _ _ k => eo j j0 k)).trans p2, (e0 8).trans p3, (e0 17).trans p4, (f.2.2 3 5 (by omega)).trans p5, p6, CB_of p7 (fun off o1 _ j => eo off (by omega) j), p8, (f.2.2 3 7 (by omega)).trans p9, (f.2.2 3 8 (by omega)).trans p10⟩, ⟨(f.2.2 3 3 (by omega)).trans w1, (stk_cong (fun j _ _ => f.2.2 36 j (by omega))).trans w2, w3, w4⟩, (f.2.2 3 4 (by omega)).trans po⟩
theorem WS_pop (ws : WS h W) : WS (st h 3 3 (imax 0 (w32 ((W.length : Int) - 1)))) W.tail := by
  obtain ⟨w1, w2, w3, w4⟩ := ws
  cases W with
  | nil => exact ⟨(ld_st_eq _ _ _ _).trans (by decide), rfl, by simp, fun t ht => by simp at ht⟩
  | cons t W =>
    have hl : (((t :: W).length : Nat) : Int) = (W.length : Int) + 1 := by rw [List.length_cons]; omega
    have w3 : W.length + 1 ≤ 72 := w3
    refine ⟨(ld_st_eq _ _ _ _).trans ?_, (stk_cong (fun j _ _ => ld_st_ne (Or.inl (by decide)))).trans (List.cons.inj w2).2, by show W.length ≤ 72; omega, fun x hx => w4 x (List.mem_cons_of_mem _ hx)⟩
    rw [hl]
    show imax 0 (w32 ((W.length : Int) + 1 - 1)) = (W.length : Int)
    rw [show w32 ((W.length : Int) + 1 - 1) = (W.length : Int) by unfold w32; omega]
    unfold imax; split <;> omega
theorem kq_49l {k : Nat} (hk : k < 3) (d : Nat) : ∀ (m : Nat) (due : Bool) (T : Wd) (W : List Int) (op kn pl : Int) (h : Hp) (x : Int), PX h tp b n pl T tw hl kn W op → XI W op kn → 0 ≤ x → x + m = 701 → ∃ r h', V (d + 7) 49 14 [(2, 3), (2, b + 18 + 4 * (k : Int)), (0, if due = true then 1 else 0), (0, x), (9, 0)] [] h = some ((0, r), h') ∧ FrP b h h' ∧ LnA tp b n r h' (clL tp n k tw hl m due T W op kn pl) := by
  intro m
  induction m with
  | zero =>
    intro due T W op kn pl h x p xi x0 hx
    have w := p.1.1.1.1
    rw [e49_14, if_pos (by omega), e49_188, if_pos (F_a3 w), Cl_eq _ (kq_35 p.1.1 1 (d + 6)).1, if_pos (by decide)]
    obtain ⟨g1, g2⟩ := LnA_f p.1 1
    exact ⟨0, _, rfl, g1, g2⟩
  | succ m ih =>
    intro due T W op kn pl h x p xi x0 hx
    have w := p.1.1.1.1
    have g3 := p.1.1.2.2.2.2.1
    have it := isT p.1
    have tb := (tkn_c tp n pl).1
    have nx : ∀ (due : Bool) (T : Wd) (W : List Int) (op kn : Int) (h : Hp), PX h tp b n pl T tw hl kn W op → XI W op kn → ∃ r h', V (d + 7) 49 175 [(2, 3), (2, b + 18 + 4 * (k : Int)), (0, if due = true then 1 else 0), (0, x), (9, 0)] [] h = some ((0, r), h') ∧ FrP b h h' ∧ LnA tp b n r h' (clL tp n k tw hl m due T W op kn (adv tp n pl)) := by
      intro due T W op kn h p xi
      have w := p.1.1.1.1
      obtain ⟨h1, a1, f1, p1⟩ := PX_adv p d
      obtain ⟨r, h', a, f, g⟩ := ih due T W op kn (adv tp n pl) h1 (x + 1) p1 xi (by omega) (by omega)
      refine ⟨r, h', ?_, FrP_tr f1 f, g⟩
      rw [e49_175, if_pos (F_a3 w), P3_0 w, if_pos (F_a4 w), Cl_eq _ a1, show w32 (x + 1) = x + 1 by unfold w32; omega]
      exact a
    rw [e49_14, if_neg (by omega), if_pos (F_a3 w), P3_0 w, if_pos (F_a4 w), g3, e49_30]
    unfold clL
    cases due with
    | true =>
      rw [if_pos rfl, if_pos rfl, if_neg (by decide), if_pos (F_a3 w)]
      obtain ⟨r1, h1, a1, f1, c1⟩ := kq_50 p xi hk (d + 3)
      rw [Cl_eq _ a1]
      generalize clOpd tp n k T W op kn pl = R at *
      cases R with
      | error e =>
        obtain ⟨c1, c2⟩ := c1
        rw [c1, if_pos rfl, e49_42, if_pos (by decide)]
        exact ⟨0, h1, rfl, f1, rfl, c2⟩
      | ok v =>
        obtain ⟨T', W', op', kn'⟩ := v
        obtain ⟨c1, px, xi'⟩ := c1
        rw [c1, if_neg (by decide), e49_44, if_pos ⟨it, by decide⟩]
        show ∃ r h', _ ∧ _ ∧ LnA tp b n r h' (clL tp n k tw hl m (decide (tkn tp n pl = -6 ∨ tkn tp n pl = -20)) T' W' op' kn' (adv tp n pl))
        by_cases q : tkn tp n pl = -6 ∨ tkn tp n pl = -20
        · obtain ⟨r, h', a, f, g⟩ := nx true T' W' op' kn' h1 px xi'
          rw [show decide (tkn tp n pl = -6 ∨ tkn tp n pl = -20) = true from decide_eq_true q]
          refine ⟨r, h', ?_, FrP_tr f1 f, g⟩
          rcases q with q | q
          · rw [if_pos q, e49_60, e49_65]; exact a
          · rw [if_neg (by omega), if_pos ⟨it, by decide⟩, if_pos q, e49_60, e49_65]; exact a
        · obtain ⟨r, h', a, f, g⟩ := nx false T' W' op' kn' h1 px xi'
          rw [show decide (tkn tp n pl = -6 ∨ tkn tp n pl = -20) = false from decide_eq_false q]
          refine ⟨r, h', ?_, FrP_tr f1 f, g⟩
          rw [if_neg (fun y => q (Or.inl y)), if_pos ⟨it, by decide⟩, if_neg (fun y => q (Or.inr y)), e49_64, e49_65]; exact a
    | false =>
      rw [if_pos (by decide), if_neg (show ¬ false = true by decide), e49_69, if_pos (tk_F tb), tk_ld w tb 1]
      show ∃ r h', (if tlev (tkn tp n pl) = 0 then _ else _) = _ ∧ _
      by_cases q : ¬ tlev (tkn tp n pl) = 0 ∧ ¬ tkn tp n pl = -20
      · rw [if_pos q, if_neg q.1, if_pos ⟨it, by decide⟩, if_neg q.2, e49_85, if_pos (F_a3 w)]
        obtain ⟨r1, h1, a1, f1, c1⟩ := kq_51 p xi hk (d + 3)
        rw [Cl_eq _ a1]
        generalize clOpr tp n k T W op kn pl = R at *
        cases R with
        | error e =>
          obtain ⟨c1, c2⟩ := c1
          rw [c1, if_pos rfl, if_pos (by decide)]
          exact ⟨0, h1, rfl, f1, rfl, c2⟩
        | ok v =>
          obtain ⟨T', W', op', kn'⟩ := v
          obtain ⟨c1, px, xi'⟩ := c1
          obtain ⟨r, h', a, f, g⟩ := nx true T' W' op' kn' h1 px xi'
          rw [c1, if_neg (by decide), e49_95]
          exact ⟨r, h', a, FrP_tr f1 f, g⟩
      · rw [if_neg q]
        have rest : ∃ r h', V (d + 7) 49 100 [(2, 3), (2, b + 18 + 4 * (k : Int)), (0, if false = true then 1 else 0), (0, x), (2, tkn tp n pl)] [] h = some ((0, r), h') ∧ FrP b h h' ∧ LnA tp b n r h' (if tkn tp n pl = -7 ∧ 0 < op then clL tp n k tw hl m false (rls k 1 W T).1 (rls k 1 W T).2.tail (op - 1) kn (adv tp n pl) else if op = 0 then .ok ((rls k 1 W T).1, tw, hl, kn, pl) else .error (1, pl)) := by
          rw [e49_100, if_pos ⟨it, by decide⟩]
          obtain ⟨h1, a1, f1, l1, ws1, o1⟩ := kq_55 hk 1 (d + 5) W T h p.1 p.2.1
          have a1' := (ce_55 _ _ _ _ _).trans a1
          have w1 := l1.1.1.1
          by_cases z : tkn tp n pl = -7 ∧ 0 < op
          · rw [if_pos z, if_pos z.1, if_pos (F_a3 w), p.2.2, if_pos z.2, e49_115, if_pos (F_a3 w), Cl_eq _ a1', if_pos (F_a3 w1), Cl_eq _ (max243 (d + 6) _ _), if_pos (W_a3 w1), ws1.1]
            have hlen := rls_len k 1 W T
            have ws2 := WS_pop ws1
            generalize hv : imax 0 (w32 (((rls k 1 W T).2.length : Int) - 1)) = v at *
            have l2 := PL_3 l1 (j := 3) (by decide) (by decide) v
            have w2 := l2.1.1.1
            have l3 := PL_3 l2 (j := 4) (by decide) (by decide) (op - 1)
            have ws3 := WS_3 ws2 (j := 4) (by decide) (op - 1)
            have f2 := FrP_3 (b := b) w1 (j := 3) (by decide) v
            have f3 := FrP_3 (b := b) w2 (j := 4) (by decide) (op - 1)
            obtain ⟨r, h', a, f, g⟩ := nx false (rls k 1 W T).1 (rls k 1 W T).2.tail (op - 1) kn _ ⟨l3, ws3, ld_st_eq _ _ _ _⟩ (by
              obtain ⟨x1, x2, x3⟩ := xi
              refine ⟨?_, by omega, x3⟩
              rw [List.length_tail]
              omega)
            refine ⟨r, h', ?_, FrP_tr f1 (FrP_tr f2 (FrP_tr f3 f)), g⟩
            rw [e49_135, if_pos (F_a3 w2), if_pos (W_a3 w2), show ld (st h1 3 3 v) 3 4 = op from (ld_st_ne (Or.inr (by decide))).trans (o1.trans p.2.2), show w32 (op - 1) = op - 1 by have := xi.2.1; unfold w32; omega, e49_145]
            exact a
          · rw [if_neg z]
            have e148 : (if tkn tp n pl = -7 then (if okF h 3 25 = true then (if 0 < ld h 3 4 then V (d + 7) 49 115 [(2, 3), (2, b + 18 + 4 * (k : Int)), (0, if false = true then 1 else 0), (0, x), (9, 0)] [] h else V (d + 7) 49 148 [(2, 3), (2, b + 18 + 4 * (k : Int)), (9, 0), (9, 0), (9, 0)] [] h) else none) else V (d + 7) 49 148 [(2, 3), (2, b + 18 + 4 * (k : Int)), (9, 0), (9, 0), (9, 0)] [] h) = V (d + 7) 49 148 [(2, 3), (2, b + 18 + 4 * (k : Int)), (9, 0), (9, 0), (9, 0)] [] h := by
              by_cases y : tkn tp n pl = -7
              · rw [if_pos y, if_pos (F_a3 w), p.2.2, if_neg (fun u => z ⟨y, u⟩)]
              · rw [if_neg y]
            rw [e148, e49_148, if_pos (F_a3 w), Cl_eq _ a1', if_pos (F_a3 w1), o1, p.2.2]
            by_cases y : op = 0
            · rw [if_pos y, if_pos y, e49_169, e49_174, if_pos (by decide)]
              exact ⟨1, h1, rfl, f1, rfl, l1⟩
            · rw [if_neg y, if_neg y, e49_161, if_pos (F_a3 w1), Cl_eq _ (kq_35 l1.1 1 (d + 6)).1, if_pos rfl, e49_173, e49_174, if_pos (by decide)]
              obtain ⟨g1, g2⟩ := LnA_f l1 1
              exact ⟨0, _, rfl, FrP_tr f1 g1, g2⟩
        by_cases z : tlev (tkn tp n pl) = 0
        · rw [if_pos z]; exact rest
        · have z2 : tkn tp n pl = -20 := by
            by_cases y : tkn tp n pl = -20
            · exact y
            · exact absurd ⟨z, y⟩ q
          rw [if_neg z, if_pos ⟨it, by decide⟩, if_pos z2]; exact rest
theorem kq_49 (p : PL h tp b n pl T tw hl kn) (hkn : 0 ≤ kn ∧ kn ≤ 64) {k : Nat} (hk : k < 3) (d : Nat) : ∃ r h', C (d + 7) 49 [(2, 3), (2, b + 18 + 4 * (k : Int))] h = some ((0, r), h') ∧ FrP b h h' ∧ LnA tp b n r h' (clL tp n k tw hl 701 true T [] 0 kn pl) := by
  have w := p.1.1.1
  have l1 := PL_3 p (j := 3) (by decide) (by decide) 0
  have w1 := l1.1.1.1
  have l2 := PL_3 l1 (j := 4) (by decide) (by decide) 0
  have f1 := FrP_3 (b := b) w (j := 3) (by decide) 0
  have f2 := FrP_3 (b := b) w1 (j := 4) (by decide) 0
  obtain ⟨r, h', a, f, g⟩ := kq_49l (tp := tp) (b := b) (n := n) (tw := tw) (hl := hl) hk d 701 true T [] 0 kn pl _ 0 ⟨l2, ⟨(ld_st_ne (Or.inr (by decide))).trans (ld_st_eq _ _ _ _), rfl, by decide, fun t ht => by simp at ht⟩, ld_st_eq _ _ _ _⟩ ⟨by show (0 : Int) ≤ 0 + kn; omega, by decide, hkn⟩ (by decide) (by decide)
  refine ⟨r, h', ?_, FrP_tr f1 (FrP_tr f2 f), g⟩
  rw [ce_49, e49_0, if_pos (W_a3 w), if_pos (W_a3 w1), e49_10]
  exact a
theorem kq_48 (p : PL h tp b n pl T tw hl kn) (hkn : 0 ≤ kn ∧ kn ≤ 64) (d : Nat) : ∃ r h', C (d + 8) 48 [(2, 3)] h = some ((0, r), h') ∧ FrP b h h' ∧ LnA tp b n r h' (lnLaw tp n T tw hl kn pl) := by
  have w := p.1.1.1
  have hb := p.1.2.2.1
  obtain ⟨h1, a1, f1, l1⟩ := PL_adv p (d + 1)
  have w1 := l1.1.1.1
  have g3 := l1.1.2.2.2.2.1
  have eb1 := l1.1.2.2.2.1
  unfold lnLaw
  dsimp only
  rw [ce_48, e48_0, if_pos (F_a3 w), P3_0 w, if_pos (F_a4 w), Cl_eq _ a1, if_pos (F_a3 w1), P3_0 w1, if_pos (F_a4 w1), g3]
  generalize hp1 : adv tp n pl = p1 at *
  have tb := (tkn_c tp n p1).1
  rw [if_pos (tk_F tb), Cl_eq _ (kq_241 (tk_F tb) _), tk_ld w1 tb 3, if_pos (sw_F (h := h1)).1, (sw_F (h := h1)).2]
  have hso : (tokFd.getD (-1 - tkn tp n p1).toNat []).getD 3 0 = -1 - tkn tp n p1 := by
    have := of_decide_eq_true (List.all_eq_true.mp (show (List.range 38).all (fun k => decide ((tokFd.getD k []).getD 3 0 = (k : Int))) = true by decide +kernel) (-1 - tkn tp n p1).toNat (List.mem_range.mpr (by omega)))
    omega
  rw [show (3 : Int).toNat = 3 from rfl, hso, if_pos (by omega), sw_ld w1]
  have fin : ∀ k : Nat, k < 3 → tkn tp n p1 = -29 - k → ∃ r h', V (d + 8) 48 93 [(2, 3), (2, b + 18 + 4 * (k : Int))] [] h1 = some ((0, r), h') ∧ FrP b h1 h' ∧ LnA tp b n r h' (if 0 < T (19 + k) 0 then .error (3, p1) else clL tp n k tw hl 701 true T [] 0 kn (adv tp n p1)) := by
    intro k hk et
    have hq : b + 18 + 4 * (k : Int) ∈ LWL := of_decide_eq_true (List.all_eq_true.mp (List.all_eq_true.mp lwl_b b hb) (k : Int) (by
      have h3 : k = 0 ∨ k = 1 ∨ k = 2 := by omega
      rcases h3 with rfl | rfl | rfl <;> decide))
    have el : ld h1 (b + 18 + 4 * (k : Int)) 3 = T (19 + k) 0 := by
      have h3 : k = 0 ∨ k = 1 ∨ k = 2 := by omega
      rcases h3 with rfl | rfl | rfl
      · exact (by rw [show b + 18 + 4 * ((0 : Nat) : Int) = b + 18 by omega]; exact congrFun (congrFun l1.2.1 19) 0)
      · exact (by rw [show b + 18 + 4 * ((1 : Nat) : Int) = b + 22 by omega]; exact congrFun (congrFun l1.2.1 20) 0)
      · exact (by rw [show b + 18 + 4 * ((2 : Nat) : Int) = b + 26 by omega]; exact congrFun (congrFun l1.2.1 21) 0)
    rw [e48_93, if_pos (lfF0 w1 hq), el]
    by_cases q : 0 < T (19 + k) 0
    · rw [if_pos q, if_pos q, if_pos (F_a3 w1), Cl_eq _ (kq_35 l1.1 3 (d + 7)).1, if_pos (by decide)]
      obtain ⟨g1, g2⟩ := LnA_f l1 3
      exact ⟨0, _, rfl, g1, g2⟩
    · obtain ⟨h2, a2, f2, l2⟩ := PL_adv l1 (d + 1)
      have w2 := l2.1.1.1
      obtain ⟨r, h', a, f, g⟩ := kq_49 l2 hkn hk d
      have hr : r = 0 ∨ r = 1 := by
        generalize clL tp n k tw hl 701 true T [] 0 kn (adv tp n p1) = R at g
        cases R with
        | error e => exact Or.inl g.1
        | ok v => exact Or.inr g.1
      refine ⟨r, h', ?_, FrP_tr f2 f, by rw [if_neg q]; exact g⟩
      rw [if_neg q, e48_106, if_pos (F_a3 w1), P3_0 w1, if_pos (F_a4 w1), Cl_eq _ a2, if_pos (F_a3 w2), Cl_eq _ a, if_pos hr]
  by_cases q29 : tkn tp n p1 = -29
  · obtain ⟨r, h', a, f, g⟩ := fin 0 (by decide) (by omega)
    refine ⟨r, h', ?_, FrP_tr f1 f, ?_⟩
    · rw [q29, if_pos (by decide), e48_48, if_pos (F_a3 w1), eb1, if_pos (bfF0 w1 hb), bfP19 w1 hb, if_pos (bfF17 w1 hb), bfL17 w1 hb, if_pos (by decide), bfP0_17 w1 hb]; rw [show b + 18 + 4 * ((0 : Nat) : Int) = b + 18 by omega] at a; exact a
    · rw [q29, if_neg (by decide)]; exact g
  by_cases q30 : tkn tp n p1 = -30
  · obtain ⟨r, h', a, f, g⟩ := fin 1 (by decide) (by omega)
    refine ⟨r, h', ?_, FrP_tr f1 f, ?_⟩
    · rw [q30, if_neg (by decide), if_pos (by decide), e48_61, if_pos (F_a3 w1), eb1, if_pos (bfF0 w1 hb), bfP19 w1 hb, if_pos (bfF17 w1 hb), bfL17 w1 hb, if_pos (by decide), bfP1_17 w1 hb]; rw [show b + 18 + 4 * ((1 : Nat) : Int) = b + 22 by omega] at a; exact a
    · rw [q30, if_neg (by decide)]; exact g
  by_cases q31 : tkn tp n p1 = -31
  · obtain ⟨r, h', a, f, g⟩ := fin 2 (by decide) (by omega)
    refine ⟨r, h', ?_, FrP_tr f1 f, ?_⟩
    · rw [q31, if_neg (by decide), if_neg (by decide), if_pos (by decide), e48_74, if_pos (F_a3 w1), eb1, if_pos (bfF0 w1 hb), bfP19 w1 hb, if_pos (bfF17 w1 hb), bfL17 w1 hb, if_pos (by decide), bfP2_17 w1 hb]; rw [show b + 18 + 4 * ((2 : Nat) : Int) = b + 26 by omega] at a; exact a
    · rw [q31, if_neg (by decide)]; exact g
  have hsw := of_decide_eq_true (List.all_eq_true.mp (show (List.range 38).all (fun k => decide (k = 28 ∨ k = 29 ∨ k = 30 ∨ (¬ swm.getD k 0 = 9 ∧ ¬ swm.getD k 0 = 10 ∧ ¬ swm.getD k 0 = 11))) = true by decide +kernel) (-1 - tkn tp n p1).toNat (List.mem_range.mpr (by omega)))
  obtain ⟨s1, s2, s3⟩ : ¬ swm.getD (-1 - tkn tp n p1).toNat 0 = 9 ∧ ¬ swm.getD (-1 - tkn tp n p1).toNat 0 = 10 ∧ ¬ swm.getD (-1 - tkn tp n p1).toNat 0 = 11 := by
    rcases hsw with y | y | y | y
    · omega
    · omega
    · omega
    · exact y
  rw [if_neg s1, if_neg s2, if_neg s3, e48_87, if_pos (F_a3 w1), Cl_eq _ (kq_35 l1.1 1 (d + 7)).1, if_pos (by decide), if_pos (by omega)]
  obtain ⟨g1, g2⟩ := LnA_f l1 1
  exact ⟨0, _, rfl, FrP_tr f1 g1, g2⟩
end TL
