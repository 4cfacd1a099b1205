/-! layer 2: the plain program's descent reads what the class reads -/
def need (op kn : Int) : Int := 8 * (9 - op) + (65 - kn) + 20
def PreW (l : Int) (W : List Int) (t : Int) : Prop := (l ≤ 6 → lev W < l ∨ (l = 3 ∧ lev W = 3)) ∧ (5 ≤ l → t = -20 → 3 < lev W)
def RS (h0 : Hp) (c0 : Int) (tp : Int → Int) (n : Int) (k : Nat) (tw hl : Int) (T0 : Wd) (l : Int) (W : List Int) (op : Int) (L0 : List (Int × Int)) (D kn0 pl0 : Int) (Z : LnR) (h' : Hp) : Prop :=
  FrE h0 c0 h' ∧ ((∃ e pc : Int, ¬ e = 0 ∧ ld h' 311 30 = e ∧ ld h' 311 31 = pc ∧ Z = .error (e, pc)) ∨
    (∃ (L : List (Int × Int)) (kn pl : Int) (m : Nat), PE h0 c0 h' tp n pl L kn op ∧ (pl0 < pl ∧ pl ≤ n) ∧ n - pl < m ∧ (kn0 < kn ∧ kn ≤ 64) ∧ (L.length : Int) - kn = D ∧ XE L0 L ∧
      ((Z = clL tp n k tw hl m false (tF T0 k L) W op kn pl ∧ ¬ (l ≤ tlev (tkn tp n pl) ∧ ¬ tkn tp n pl = -20)) ∨ (l ≤ 3 ∧ tlev (tkn tp n pl) = 4 ∧ Z = .error (1, pl)))))
def SS (h0 : Hp) (c0 : Int) (tp : Int → Int) (n : Int) (k : Nat) (tw hl : Int) (T0 : Wd) (q : Nat) (l b pl : Int) : Prop :=
  ∀ (h : Hp) (L : List (Int × Int)) (kn op : Int) (W : List Int) (m d : Nat), PE h0 c0 h tp n pl L kn op → (0 ≤ c0 ∧ c0 + (L.length : Int) ≤ kn ∧ kn ≤ 64) → (0 ≤ op ∧ op ≤ 8) → PreW l W (tkn tp n pl) → n - pl < m → need op kn + b ≤ (d : Int) → ∃ h', C d q [(2, 311)] h = some ((9, 0), h') ∧ RS h0 c0 tp n k tw hl T0 l W op L ((L.length : Int) - kn) kn pl (clL tp n k tw hl m true (tF T0 k L) W op kn pl) h'
section ED
variable {h0 h : Hp} {tp : Int → Int} {n c0 : Int} {k : Nat} {tw hl : Int} {T0 : Wd}
theorem PP_le {pl : Int} (p : PP h tp n pl) : pl ≤ n := by
  have := p.1.2.2.2.2.2.2
  unfold lTok at this
  by_cases q : pl < n
  · omega
  · rw [if_pos q] at this; exact this
theorem va_3 {pl t so va : Int} (l : LSx tp n pl t so va) (e : -17 ≤ t ∧ t ≤ -5) : so = 3 ∧ va = svt t := by
  unfold LSx at l
  rcases l with q | q | q | q | q | q <;> first | exact q.2 | (exfalso; omega)
/-! the class's steps -/
theorem clL_op {u : Int} {T : Wd} {W : List Int} {op kn pl : Int} (eu : tkn tp n pl = u) (q : ¬ tlev u = 0 ∧ ¬ u = -20) (hs : lev W < (if tlev u = 4 then 5 else tlev u)) (h4 : ¬ (tlev u = 4 ∧ lev W = 4)) (m : Nat) : clL tp n k tw hl (m + 1) false T W op kn pl = if kn < 64 then clL tp n k tw hl m true T (u :: W) op (kn + 1) (adv tp n pl) else .error (2, pl) := by
  have e : clOpr tp n k T W op kn pl = if kn < 64 then .ok (T, u :: W, op, kn + 1) else .error (2, pl) := by
    unfold clOpr
    dsimp only
    rw [eu, rls_s T hs, if_neg h4]
  rw [show clL tp n k tw hl (m + 1) false T W op kn pl = (if ¬ tlev (tkn tp n pl) = 0 ∧ ¬ tkn tp n pl = -20 then (match clOpr tp n k T W op kn pl with
      | .error e => .error e
      | .ok (T', W', op', kn') => clL tp n k tw hl m true T' W' op' kn' (adv tp n pl)) else if tkn tp n pl = -7 ∧ 0 < op then clL tp n k tw hl m false (rls k 1 W T).1 (rls k 1 W T).2.tail (op - 1) kn (adv tp n pl)
    else if op = 0 then .ok ((rls k 1 W T).1, tw, hl, kn, pl) else .error (1, pl)) from rfl, eu, if_pos q, e]
  by_cases y : kn < 64
  · simp only [if_pos y]
  · simp only [if_neg y]
theorem clL_4 {T : Wd} {W : List Int} {op kn pl : Int} (q : tlev (tkn tp n pl) = 4) (q2 : ¬ tkn tp n pl = -20) (h4 : lev W = 4) (m : Nat) : clL tp n k tw hl (m + 1) false T W op kn pl = .error (1, pl) := by
  have e : clOpr tp n k T W op kn pl = .error (1, pl) := by
    unfold clOpr
    dsimp only
    rw [if_pos q, rls_s T (show lev W < 5 by omega), if_pos ⟨q, h4⟩]
  rw [show clL tp n k tw hl (m + 1) false T W op kn pl = (if ¬ tlev (tkn tp n pl) = 0 ∧ ¬ tkn tp n pl = -20 then (match clOpr tp n k T W op kn pl with
      | .error e => .error e
      | .ok (T', W', op', kn') => clL tp n k tw hl m true T' W' op' kn' (adv tp n pl)) else if tkn tp n pl = -7 ∧ 0 < op then clL tp n k tw hl m false (rls k 1 W T).1 (rls k 1 W T).2.tail (op - 1) kn (adv tp n pl)
    else if op = 0 then .ok ((rls k 1 W T).1, tw, hl, kn, pl) else .error (1, pl)) from rfl, if_pos ⟨by omega, q2⟩, e]
theorem clL_ns {T : Wd} {W : List Int} {op kn pl : Int} (q : tlev (tkn tp n pl) = 0 ∨ tkn tp n pl = -20) (m : Nat) : clL tp n k tw hl (m + 1) false T W op kn pl = if tkn tp n pl = -7 ∧ 0 < op then clL tp n k tw hl m false (rls k 1 W T).1 (rls k 1 W T).2.tail (op - 1) kn (adv tp n pl)
    else if op = 0 then .ok ((rls k 1 W T).1, tw, hl, kn, pl) else .error (1, pl) := by
  rw [show clL tp n k tw hl (m + 1) false T W op kn pl = (if ¬ tlev (tkn tp n pl) = 0 ∧ ¬ tkn tp n pl = -20 then (match clOpr tp n k T W op kn pl with
      | .error e => .error e
      | .ok (T', W', op', kn') => clL tp n k tw hl m true T' W' op' kn' (adv tp n pl)) else if tkn tp n pl = -7 ∧ 0 < op then clL tp n k tw hl m false (rls k 1 W T).1 (rls k 1 W T).2.tail (op - 1) kn (adv tp n pl)
    else if op = 0 then .ok ((rls k 1 W T).1, tw, hl, kn, pl) else .error (1, pl)) from rfl, if_neg (by omega)]
def cntD (tp : Int → Int) (n : Int) (k : Nat) (tw hl : Int) (m : Nat) (due : Bool) (pl : Int) : CsR → LnR
  | .error e => .error e
  | .ok (T', W', op', kn') => clL tp n k tw hl m due T' W' op' kn' pl
theorem clL_d {T : Wd} {W : List Int} {op kn pl : Int} {R : CsR} (e : clOpd tp n k T W op kn pl = R) (m : Nat) : clL tp n k tw hl (m + 1) true T W op kn pl = cntD tp n k tw hl m (decide (tkn tp n pl = -6 ∨ tkn tp n pl = -20)) (adv tp n pl) R := by
  rw [← e]
  show (if true = true then (match clOpd tp n k T W op kn pl with
      | .error e => (Except.error e : LnR)
      | .ok (T', W', op', kn') => clL tp n k tw hl m (decide (tkn tp n pl = -6 ∨ tkn tp n pl = -20)) T' W' op' kn' (adv tp n pl)) else _) = _
  rw [if_pos rfl]
  cases clOpd tp n k T W op kn pl <;> rfl
theorem clL_not {T : Wd} {W : List Int} {op kn pl : Int} (q : tkn tp n pl = -20) (h3 : ¬ 3 < lev W) (m : Nat) : clL tp n k tw hl (m + 1) true T W op kn pl = if kn < 64 then clL tp n k tw hl m true T ((-20) :: W) op (kn + 1) (adv tp n pl) else .error (2, pl) := by
  have e : clOpd tp n k T W op kn pl = if kn < 64 then .ok (T, (-20) :: W, op, kn + 1) else .error (2, pl) := by
    unfold clOpd
    rw [q, if_neg (by decide), if_pos rfl, if_neg h3]
  rw [clL_d e, decide_eq_true (Or.inr q)]
  by_cases y : kn < 64
  · simp only [if_pos y]; rfl
  · simp only [if_neg y]; rfl
theorem clL_par {T : Wd} {W : List Int} {op kn pl : Int} (q : tkn tp n pl = -6) (m : Nat) : clL tp n k tw hl (m + 1) true T W op kn pl = if 8 < op + 1 then .error (2, pl) else clL tp n k tw hl m true T ((-6) :: W) (op + 1) kn (adv tp n pl) := by
  have e : clOpd tp n k T W op kn pl = if 8 < op + 1 then .error (2, pl) else .ok (T, (-6) :: W, op + 1, kn) := by
    unfold clOpd
    rw [if_pos q]
  rw [clL_d e, decide_eq_true (Or.inl q)]
  by_cases y : 8 < op + 1
  · simp only [if_pos y]; rfl
  · simp only [if_neg y]; rfl
theorem clL_opd {T : Wd} {W : List Int} {op kn pl : Int} (q : (tkn tp n pl = -4 ∧ nck tp n pl 0 9999 = 0) ∨ tkn tp n pl ≤ -32) (m : Nat) : clL tp n k tw hl (m + 1) true T W op kn pl = if kn < 64 then clL tp n k tw hl m false (tPut T k (tkn tp n pl) (tnm tp n pl)) W op (kn + 1) (adv tp n pl) else .error (2, pl) := by
  have l := (lvt (tkn_c tp n pl).1).2.2.2.2.2.2.2.2.2.2
  have e : clOpd tp n k T W op kn pl = if kn < 64 then .ok (tPut T k (tkn tp n pl) (tnm tp n pl), W, op, kn + 1) else .error (2, pl) := by
    unfold clOpd
    rw [if_neg (by omega), if_neg (by omega), if_neg (by omega), if_neg (by rw [l]; omega)]
  rw [clL_d e, decide_eq_false (by omega)]
  by_cases y : kn < 64
  · simp only [if_pos y]; rfl
  · simp only [if_neg y]; rfl
theorem clL_num {T : Wd} {W : List Int} {op kn pl : Int} (q : tkn tp n pl = -4) (z : ¬ nck tp n pl 0 9999 = 0) (m : Nat) : clL tp n k tw hl (m + 1) true T W op kn pl = .error (nck tp n pl 0 9999, pl) := by
  have e : clOpd tp n k T W op kn pl = .error (nck tp n pl 0 9999, pl) := by
    unfold clOpd
    rw [if_neg (by omega), if_neg (by omega), if_pos ⟨q, z⟩]
  rw [clL_d e]; rfl
theorem clL_1 {T : Wd} {W : List Int} {op kn pl : Int} (q6 : ¬ tkn tp n pl = -6) (q4 : ¬ tkn tp n pl = -4) (q3 : -32 < tkn tp n pl) (hn : tkn tp n pl = -20 → 3 < lev W) (m : Nat) : clL tp n k tw hl (m + 1) true T W op kn pl = .error (1, pl) := by
  have l := (lvt (tkn_c tp n pl).1).2.2.2.2.2.2.2.2.2.2
  have e : clOpd tp n k T W op kn pl = .error (1, pl) := by
    unfold clOpd
    rw [if_neg q6]
    by_cases y : tkn tp n pl = -20
    · rw [if_pos y, if_pos (hn y)]
    · rw [if_neg y, if_neg (fun u => q4 u.1), if_pos ⟨q4, l.mpr q3⟩]
  rw [clL_d e]; rfl
theorem lp_171 {W : List Int} {op D kn0 pl0 : Int} {L0 : List (Int × Int)} {Z : LnR} (hop : 0 ≤ op ∧ op ≤ 8) (hW : lev W < 6) (hc : 0 ≤ c0 ∧ c0 + D ≤ 0) (d : Nat) (hd : need op kn0 + 2 ≤ ((d + 7 : Nat) : Int)) (sub : ∀ pl', pl0 < pl' → SS h0 c0 tp n k tw hl T0 172 7 1 pl') : ∀ (N : Nat) (h : Hp) (L : List (Int × Int)) (kn pl : Int) (m : Nat), n - pl < N → PE h0 c0 h tp n pl L kn op → kn0 < kn ∧ kn ≤ 64 → (L.length : Int) - kn = D → XE L0 L → pl0 < pl → n - pl < m → ¬ (7 ≤ tlev (tkn tp n pl) ∧ ¬ tkn tp n pl = -20) → Z = clL tp n k tw hl m false (tF T0 k L) W op kn pl → ∃ h', V (d + 7) 171 4 [(2, 311), (9, 0)] [] h = some ((9, 0), h') ∧ RS h0 c0 tp n k tw hl T0 6 W op L0 D kn0 pl0 Z h' := by
  intro N
  induction N with
  | zero =>
    intro h L kn pl m hN p
    have := PP_le p.1
    omega
  | succ N ih =>
    intro h L kn pl m hN p hk hD hE hpl hm nx hZ
    have w := p.1.1.1
    have tb := (tkn_c tp n pl).1
    have lt := lvt tb
    have ple := PP_le p.1
    have r1 := rk_147t p.1 (t := (-16)) (by decide) (d + 6)
    have r2 := rk_147t p.1 (t := (-17)) (by decide) (d + 6)
    rw [show svt (-16) = 42 from rfl] at r1
    rw [show svt (-17) = 47 from rfl] at r2
    by_cases q : tkn tp n pl = (-16) ∨ tkn tp n pl = (-17)
    · have e22 : V (d + 7) 171 4 [(2, 311), (9, 0)] [] h = V (d + 7) 171 22 [(2, 311), (9, 0)] [] h := by
        rw [e171_4, if_pos (F_a311 w), Cl_eq _ r1]
        by_cases y : tkn tp n pl = (-16)
        · rw [decide_eq_true y, if_neg (by decide)]
        · rw [decide_eq_false y, if_pos bI_f, if_pos (F_a311 w), Cl_eq _ r2, decide_eq_true (q.resolve_left y), if_neg (by decide)]
      have hv : ld h 311 29 = kval (tkn tp n pl) 0 := by
        rw [(va_3 p.1.2.2.1 (by omega)).2]; exact lt.2.2.2.2.2.2.2.1 (by omega)
      have hpn := tk_lt (tp := tp) (show ¬ tkn tp n pl = -1 by omega)
      have ag := adv_gt (tp := tp) hpn
      obtain ⟨m1, rfl⟩ : ∃ m1, m = m1 + 1 := ⟨m - 1, by omega⟩
      have hl6 : tlev (tkn tp n pl) = 6 := by omega
      have eZ := hZ.trans (clL_op rfl (by omega) (by rw [if_neg (by omega)]; omega) (by omega) m1)
      rw [e22, e171_22, if_pos (F_a311 w), if_pos (F_a311 w)]
      obtain ⟨k1, k2⟩ := PE_166 p ⟨by omega, hk.2⟩ (d + 5)
      by_cases q2 : kn < 64
      · obtain ⟨a1, p1⟩ := k1 q2
        have w1 := p1.1.1.1
        obtain ⟨h2, a2, p2⟩ := PE_148 p1 d
        have w2 := p2.1.1.1
        rw [if_pos q2] at eZ
        obtain ⟨h3, a3, f3, r3⟩ := sub (adv tp n pl) (by omega) h2 L (kn + 1) op (tkn tp n pl :: W) m1 (d + 6) p2 ⟨hc.1, by omega, by omega⟩ hop ⟨fun _ => Or.inl (by show tlev (tkn tp n pl) < 7; omega), fun _ _ => by show 3 < tlev (tkn tp n pl); omega⟩ (by omega) (by unfold need at hd ⊢; omega)
        rw [← eZ] at r3
        rw [Cl_eq _ a1, e171_31, if_pos (F_a311 w1), Cl_eq _ a2, if_pos (F_a311 w2), Cl_eq _ a3, if_pos (F_a311 f3.1), hv]
        rcases r3 with ⟨e, pc, e0, g1, g2, g3⟩ | ⟨L', kn', pl', m', p3, b1, b2, b3, b4, b5, c⟩
        · have q30 : ¬ ld h3 311 30 = 0 := by rw [g1]; exact e0
          refine ⟨h3, ?_, f3, Or.inl ⟨e, pc, e0, g1, g2, g3⟩⟩
          rw [Cl_eq _ (rk_165f f3.1 q30 _ _ (d + 6)), e171_45, l4_171f f3.1 q30 (d + 6)]
        · rcases c with ⟨c1, c2⟩ | ⟨c1, -⟩
          · have lt' := lvt (tkn_c tp n pl').1
            obtain ⟨h4, a4, p4⟩ := PE_165 p3 ⟨hc.1, by omega⟩ (ks2 (t := tkn tp n pl) (by omega)) (x := 0) rfl (I32_of (by decide)) (d + 5)
            have rel := clL_rel (tp := tp) (n := n) (pl := pl') (k := k) (tw := tw) (hl := hl) (t := tkn tp n pl) (T := tF T0 k L') (W := W) (op := op) (kn := kn') (by
              unfold rth
              split
              · omega
              split
              · omega
              · omega) (by omega) m'
            rw [tF_put] at rel
            obtain ⟨h', a', r'⟩ := ih h4 (L' ++ [(tkn tp n pl, 0)]) kn' pl' m' (by omega) p4 ⟨by omega, by omega⟩ (by rw [List.length_append]; show ((L'.length + 1 : Nat) : Int) - kn' = D; omega) (XE_2 hE b5 (by omega) 0) (by omega) b2 c2 (c1.trans rel)
            exact ⟨h', by rw [Cl_eq _ a4, e171_45]; exact a', r'⟩
          · omega
      · have f2 := FrE_flt p.2.1 2 pl
        have q30 : ¬ ld (flt h 2 pl) 311 30 = 0 := by rw [flt_30]; decide
        rw [if_neg q2] at eZ
        refine ⟨flt h 2 pl, ?_, f2, Or.inl ⟨2, pl, by decide, flt_30 _ _ _, flt_31 _ _ _, eZ⟩⟩
        rw [Cl_eq _ (k2 q2), e171_31, if_pos (F_a311 f2.1), Cl_eq _ (rk_148f f2.1 q30 (d + 6)), if_pos (F_a311 f2.1), Cl_eq _ (rk_172f f2.1 q30 (d + 6)), if_pos (F_a311 f2.1), Cl_eq _ (rk_165f f2.1 q30 _ _ (d + 6)), e171_45, l4_171f f2.1 q30 (d + 6)]
    · refine ⟨h, ?_, p.2.1, Or.inr ⟨L, kn, pl, m, p, ⟨hpl, ple⟩, hm, hk, hD, hE, Or.inl ⟨hZ, by omega⟩⟩⟩
      rw [e171_4, if_pos (F_a311 w), Cl_eq _ r1, decide_eq_false (fun u => q (Or.inl u)), if_pos bI_f, if_pos (F_a311 w), Cl_eq _ r2, decide_eq_false (fun u => q (Or.inr u)), if_pos bI_f, e171_48]
theorem SS_171 {pl : Int} (sub : ∀ pl', pl ≤ pl' → SS h0 c0 tp n k tw hl T0 172 7 1 pl') : SS h0 c0 tp n k tw hl T0 171 6 2 pl := by
  intro h L kn op W m d p room hop pre hm hd
  have w := p.1.1.1
  obtain ⟨e, rfl⟩ : ∃ e, d = e + 7 := ⟨d - 7, by unfold need at hd; omega⟩
  have hW : lev W < 6 := by have := pre.1 (by decide); omega
  obtain ⟨h1, a1, f1, r1⟩ := sub pl (Int.le_refl _) h L kn op W m (e + 6) p room hop ⟨fun _ => Or.inl (by omega), fun _ => pre.2 (by decide)⟩ hm (by omega)
  rw [ce_171, e171_0, if_pos (F_a311 w), Cl_eq _ a1]
  rcases r1 with ⟨x, pc, e0, g1, g2, g3⟩ | ⟨L', kn', pl', m', p3, b1, b2, b3, b4, b5, c⟩
  · have q30 : ¬ ld h1 311 30 = 0 := by rw [g1]; exact e0
    exact ⟨h1, l4_171f f1.1 q30 (e + 6), f1, Or.inl ⟨x, pc, e0, g1, g2, g3⟩⟩
  · rcases c with ⟨c1, c2⟩ | ⟨c1, -⟩
    · exact lp_171 hop hW ⟨room.1, by omega⟩ e hd (fun pl' u => sub pl' (Int.le_of_lt u)) ((n - pl').toNat + 1) h1 L' kn' pl' m' (by omega) p3 b3 b4 b5 b1.1 b2 c2 c1
    · omega
theorem lp_170 {W : List Int} {op D kn0 pl0 : Int} {L0 : List (Int × Int)} {Z : LnR} (hop : 0 ≤ op ∧ op ≤ 8) (hW : lev W < 5) (hc : 0 ≤ c0 ∧ c0 + D ≤ 0) (d : Nat) (hd : need op kn0 + 3 ≤ ((d + 7 : Nat) : Int)) (sub : ∀ pl', pl0 < pl' → SS h0 c0 tp n k tw hl T0 171 6 2 pl') : ∀ (N : Nat) (h : Hp) (L : List (Int × Int)) (kn pl : Int) (m : Nat), n - pl < N → PE h0 c0 h tp n pl L kn op → kn0 < kn ∧ kn ≤ 64 → (L.length : Int) - kn = D → XE L0 L → pl0 < pl → n - pl < m → ¬ (6 ≤ tlev (tkn tp n pl) ∧ ¬ tkn tp n pl = -20) → Z = clL tp n k tw hl m false (tF T0 k L) W op kn pl → ∃ h', V (d + 7) 170 4 [(2, 311), (9, 0)] [] h = some ((9, 0), h') ∧ RS h0 c0 tp n k tw hl T0 5 W op L0 D kn0 pl0 Z h' := by
  intro N
  induction N with
  | zero =>
    intro h L kn pl m hN p
    have := PP_le p.1
    omega
  | succ N ih =>
    intro h L kn pl m hN p hk hD hE hpl hm nx hZ
    have w := p.1.1.1
    have tb := (tkn_c tp n pl).1
    have lt := lvt tb
    have ple := PP_le p.1
    have r1 := rk_147t p.1 (t := (-14)) (by decide) (d + 6)
    have r2 := rk_147t p.1 (t := (-15)) (by decide) (d + 6)
    rw [show svt (-14) = 43 from rfl] at r1
    rw [show svt (-15) = 45 from rfl] at r2
    by_cases q : tkn tp n pl = (-14) ∨ tkn tp n pl = (-15)
    · have e22 : V (d + 7) 170 4 [(2, 311), (9, 0)] [] h = V (d + 7) 170 22 [(2, 311), (9, 0)] [] h := by
        rw [e170_4, if_pos (F_a311 w), Cl_eq _ r1]
        by_cases y : tkn tp n pl = (-14)
        · rw [decide_eq_true y, if_neg (by decide)]
        · rw [decide_eq_false y, if_pos bI_f, if_pos (F_a311 w), Cl_eq _ r2, decide_eq_true (q.resolve_left y), if_neg (by decide)]
      have hv : ld h 311 29 = kval (tkn tp n pl) 0 := by
        rw [(va_3 p.1.2.2.1 (by omega)).2]; exact lt.2.2.2.2.2.2.2.1 (by omega)
      have hpn := tk_lt (tp := tp) (show ¬ tkn tp n pl = -1 by omega)
      have ag := adv_gt (tp := tp) hpn
      obtain ⟨m1, rfl⟩ : ∃ m1, m = m1 + 1 := ⟨m - 1, by omega⟩
      have hl6 : tlev (tkn tp n pl) = 5 := by omega
      have eZ := hZ.trans (clL_op rfl (by omega) (by rw [if_neg (by omega)]; omega) (by omega) m1)
      rw [e22, e170_22, if_pos (F_a311 w), if_pos (F_a311 w)]
      obtain ⟨k1, k2⟩ := PE_166 p ⟨by omega, hk.2⟩ (d + 5)
      by_cases q2 : kn < 64
      · obtain ⟨a1, p1⟩ := k1 q2
        have w1 := p1.1.1.1
        obtain ⟨h2, a2, p2⟩ := PE_148 p1 d
        have w2 := p2.1.1.1
        rw [if_pos q2] at eZ
        obtain ⟨h3, a3, f3, r3⟩ := sub (adv tp n pl) (by omega) h2 L (kn + 1) op (tkn tp n pl :: W) m1 (d + 6) p2 ⟨hc.1, by omega, by omega⟩ hop ⟨fun _ => Or.inl (by show tlev (tkn tp n pl) < 6; omega), fun _ _ => by show 3 < tlev (tkn tp n pl); omega⟩ (by omega) (by unfold need at hd ⊢; omega)
        rw [← eZ] at r3
        rw [Cl_eq _ a1, e170_31, if_pos (F_a311 w1), Cl_eq _ a2, if_pos (F_a311 w2), Cl_eq _ a3, if_pos (F_a311 f3.1), hv]
        rcases r3 with ⟨e, pc, e0, g1, g2, g3⟩ | ⟨L', kn', pl', m', p3, b1, b2, b3, b4, b5, c⟩
        · have q30 : ¬ ld h3 311 30 = 0 := by rw [g1]; exact e0
          refine ⟨h3, ?_, f3, Or.inl ⟨e, pc, e0, g1, g2, g3⟩⟩
          rw [Cl_eq _ (rk_165f f3.1 q30 _ _ (d + 6)), e170_45, l4_170f f3.1 q30 (d + 6)]
        · rcases c with ⟨c1, c2⟩ | ⟨c1, -⟩
          · have lt' := lvt (tkn_c tp n pl').1
            obtain ⟨h4, a4, p4⟩ := PE_165 p3 ⟨hc.1, by omega⟩ (ks2 (t := tkn tp n pl) (by omega)) (x := 0) rfl (I32_of (by decide)) (d + 5)
            have rel := clL_rel (tp := tp) (n := n) (pl := pl') (k := k) (tw := tw) (hl := hl) (t := tkn tp n pl) (T := tF T0 k L') (W := W) (op := op) (kn := kn') (by
              unfold rth
              split
              · omega
              split
              · omega
              · omega) (by omega) m'
            rw [tF_put] at rel
            obtain ⟨h', a', r'⟩ := ih h4 (L' ++ [(tkn tp n pl, 0)]) kn' pl' m' (by omega) p4 ⟨by omega, by omega⟩ (by rw [List.length_append]; show ((L'.length + 1 : Nat) : Int) - kn' = D; omega) (XE_2 hE b5 (by omega) 0) (by omega) b2 c2 (c1.trans rel)
            exact ⟨h', by rw [Cl_eq _ a4, e170_45]; exact a', r'⟩
          · omega
      · have f2 := FrE_flt p.2.1 2 pl
        have q30 : ¬ ld (flt h 2 pl) 311 30 = 0 := by rw [flt_30]; decide
        rw [if_neg q2] at eZ
        refine ⟨flt h 2 pl, ?_, f2, Or.inl ⟨2, pl, by decide, flt_30 _ _ _, flt_31 _ _ _, eZ⟩⟩
        rw [Cl_eq _ (k2 q2), e170_31, if_pos (F_a311 f2.1), Cl_eq _ (rk_148f f2.1 q30 (d + 6)), if_pos (F_a311 f2.1), Cl_eq _ (rk_171f f2.1 q30 (d + 5)), if_pos (F_a311 f2.1), Cl_eq _ (rk_165f f2.1 q30 _ _ (d + 6)), e170_45, l4_170f f2.1 q30 (d + 6)]
    · refine ⟨h, ?_, p.2.1, Or.inr ⟨L, kn, pl, m, p, ⟨hpl, ple⟩, hm, hk, hD, hE, Or.inl ⟨hZ, by omega⟩⟩⟩
      rw [e170_4, if_pos (F_a311 w), Cl_eq _ r1, decide_eq_false (fun u => q (Or.inl u)), if_pos bI_f, if_pos (F_a311 w), Cl_eq _ r2, decide_eq_false (fun u => q (Or.inr u)), if_pos bI_f, e170_48]
theorem SS_170 {pl : Int} (sub : ∀ pl', pl ≤ pl' → SS h0 c0 tp n k tw hl T0 171 6 2 pl') : SS h0 c0 tp n k tw hl T0 170 5 3 pl := by
  intro h L kn op W m d p room hop pre hm hd
  have w := p.1.1.1
  obtain ⟨e, rfl⟩ : ∃ e, d = e + 7 := ⟨d - 7, by unfold need at hd; omega⟩
  have hW : lev W < 5 := by have := pre.1 (by decide); omega
  obtain ⟨h1, a1, f1, r1⟩ := sub pl (Int.le_refl _) h L kn op W m (e + 6) p room hop ⟨fun _ => Or.inl (by omega), fun _ => pre.2 (by decide)⟩ hm (by omega)
  rw [ce_170, e170_0, if_pos (F_a311 w), Cl_eq _ a1]
  rcases r1 with ⟨x, pc, e0, g1, g2, g3⟩ | ⟨L', kn', pl', m', p3, b1, b2, b3, b4, b5, c⟩
  · have q30 : ¬ ld h1 311 30 = 0 := by rw [g1]; exact e0
    exact ⟨h1, l4_170f f1.1 q30 (e + 6), f1, Or.inl ⟨x, pc, e0, g1, g2, g3⟩⟩
  · rcases c with ⟨c1, c2⟩ | ⟨c1, -⟩
    · exact lp_170 hop hW ⟨room.1, by omega⟩ e hd (fun pl' u => sub pl' (Int.le_of_lt u)) ((n - pl').toNat + 1) h1 L' kn' pl' m' (by omega) p3 b3 b4 b5 b1.1 b2 c2 c1
    · omega
theorem lp_168 {W : List Int} {op D kn0 pl0 : Int} {L0 : List (Int × Int)} {Z : LnR} (hop : 0 ≤ op ∧ op ≤ 8) (hW : lev W < 2) (hc : 0 ≤ c0 ∧ c0 + D ≤ 0) (d : Nat) (hd : need op kn0 + 5 ≤ ((d + 7 : Nat) : Int)) (sub : ∀ pl', pl0 < pl' → SS h0 c0 tp n k tw hl T0 169 3 4 pl') : ∀ (N : Nat) (h : Hp) (L : List (Int × Int)) (kn pl : Int) (m : Nat), n - pl < N → PE h0 c0 h tp n pl L kn op → kn0 < kn ∧ kn ≤ 64 → (L.length : Int) - kn = D → XE L0 L → pl0 < pl → n - pl < m → ((¬ (3 ≤ tlev (tkn tp n pl) ∧ ¬ tkn tp n pl = -20) ∧ Z = clL tp n k tw hl m false (tF T0 k L) W op kn pl) ∨ (tlev (tkn tp n pl) = 4 ∧ Z = .error (1, pl))) → ∃ h', V (d + 7) 168 4 [(2, 311)] [] h = some ((9, 0), h') ∧ RS h0 c0 tp n k tw hl T0 2 W op L0 D kn0 pl0 Z h' := by
  intro N
  induction N with
  | zero =>
    intro h L kn pl m hN p
    have := PP_le p.1
    omega
  | succ N ih =>
    intro h L kn pl m hN p hk hD hE hpl hm hZ0
    have w := p.1.1.1
    have tb := (tkn_c tp n pl).1
    have lt := lvt tb
    have ple := PP_le p.1
    have r1 := rk_146t p.1 (x := 12) (t := (-19)) (by decide) (d + 6)
    by_cases q : tkn tp n pl = (-19)
    · rcases hZ0 with ⟨nx, hZ⟩ | ⟨z4, -⟩
      · have e17 : V (d + 7) 168 4 [(2, 311)] [] h = Cl (d + 7) 166 [(2, 311)] 9 h (fun r2 h2 => V (d + 7) 168 17 [(2, 311)] [] h2) := by
          rw [e168_4, if_pos (F_a311 w), Cl_eq _ r1, decide_eq_true q, if_neg (by decide), if_pos (F_a311 w)]
        have hpn := tk_lt (tp := tp) (show ¬ tkn tp n pl = -1 by omega)
        have ag := adv_gt (tp := tp) hpn
        obtain ⟨m1, rfl⟩ : ∃ m1, m = m1 + 1 := ⟨m - 1, by omega⟩
        have hl6 : tlev (tkn tp n pl) = 2 := by omega
        have eZ := hZ.trans (clL_op rfl (by omega) (by rw [if_neg (by omega)]; omega) (by omega) m1)
        rw [e17]
        obtain ⟨k1, k2⟩ := PE_166 p ⟨by omega, hk.2⟩ (d + 5)
        by_cases q2 : kn < 64
        · obtain ⟨a1, p1⟩ := k1 q2
          have w1 := p1.1.1.1
          obtain ⟨h2, a2, p2⟩ := PE_148 p1 d
          have w2 := p2.1.1.1
          rw [if_pos q2] at eZ
          obtain ⟨h3, a3, f3, r3⟩ := sub (adv tp n pl) (by omega) h2 L (kn + 1) op (tkn tp n pl :: W) m1 (d + 6) p2 ⟨hc.1, by omega, by omega⟩ hop ⟨fun _ => Or.inl (by show tlev (tkn tp n pl) < 3; omega), fun u => absurd u (by decide)⟩ (by omega) (by unfold need at hd ⊢; omega)
          rw [← eZ] at r3
          rw [Cl_eq _ a1, e168_17, if_pos (F_a311 w1), Cl_eq _ a2, if_pos (F_a311 w2), Cl_eq _ a3, if_pos (F_a311 f3.1)]
          rcases r3 with ⟨e, pc, e0, g1, g2, g3⟩ | ⟨L', kn', pl', m', p3, b1, b2, b3, b4, b5, c⟩
          · have q30 : ¬ ld h3 311 30 = 0 := by rw [g1]; exact e0
            refine ⟨h3, ?_, f3, Or.inl ⟨e, pc, e0, g1, g2, g3⟩⟩
            rw [Cl_eq _ (rk_165f f3.1 q30 _ _ (d + 6)), e168_33, l4_168f f3.1 q30 (d + 6)]
          · have lt' := lvt (tkn_c tp n pl').1
            obtain ⟨h4, a4, p4⟩ := PE_165 p3 ⟨hc.1, by omega⟩ (ks2 (t := tkn tp n pl) (by omega)) (v := 261) (x := 0) (by rw [q]; rfl) (I32_of (by decide)) (d + 5)
            have hD' : ((L' ++ [(tkn tp n pl, (0 : Int))]).length : Int) - kn' = D := by rw [List.length_append]; show ((L'.length + 1 : Nat) : Int) - kn' = D; omega
            have new : (¬ (3 ≤ tlev (tkn tp n pl') ∧ ¬ tkn tp n pl' = -20) ∧ Z = clL tp n k tw hl m' false (tF T0 k (L' ++ [(tkn tp n pl, 0)])) W op kn' pl') ∨ (tlev (tkn tp n pl') = 4 ∧ Z = .error (1, pl')) := by
              rcases c with ⟨c1, c2⟩ | ⟨-, c2, c3⟩
              · have rel := clL_rel (tp := tp) (n := n) (pl := pl') (k := k) (tw := tw) (hl := hl) (t := tkn tp n pl) (T := tF T0 k L') (W := W) (op := op) (kn := kn') (by
                  unfold rth
                  split
                  · omega
                  split
                  · omega
                  · omega) (by omega) m'
                rw [tF_put] at rel
                exact Or.inl ⟨c2, c1.trans rel⟩
              · exact Or.inr ⟨c2, c3⟩
            obtain ⟨h', a', r'⟩ := ih h4 (L' ++ [(tkn tp n pl, 0)]) kn' pl' m' (by omega) p4 ⟨by omega, by omega⟩ hD' (XE_2 hE b5 (by omega) 0) (by omega) b2 new
            exact ⟨h', by rw [Cl_eq _ a4, e168_33]; exact a', r'⟩
        · have f2 := FrE_flt p.2.1 2 pl
          have q30 : ¬ ld (flt h 2 pl) 311 30 = 0 := by rw [flt_30]; decide
          rw [if_neg q2] at eZ
          refine ⟨flt h 2 pl, ?_, f2, Or.inl ⟨2, pl, by decide, flt_30 _ _ _, flt_31 _ _ _, eZ⟩⟩
          rw [Cl_eq _ (k2 q2), e168_17, if_pos (F_a311 f2.1), Cl_eq _ (rk_148f f2.1 q30 (d + 6)), if_pos (F_a311 f2.1), Cl_eq _ (rk_169f f2.1 q30 (d + 3)), if_pos (F_a311 f2.1), Cl_eq _ (rk_165f f2.1 q30 _ _ (d + 6)), e168_33, l4_168f f2.1 q30 (d + 6)]
      · omega
    · refine ⟨h, ?_, p.2.1, Or.inr ⟨L, kn, pl, m, p, ⟨hpl, ple⟩, hm, hk, hD, hE, ?_⟩⟩
      · rw [e168_4, if_pos (F_a311 w), Cl_eq _ r1, decide_eq_false q, if_pos bI_f, e168_36]
      · rcases hZ0 with ⟨nx, hZ⟩ | ⟨z4, z5⟩
        · exact Or.inl ⟨hZ, by omega⟩
        · exact Or.inr ⟨by decide, z4, z5⟩
theorem SS_168 {pl : Int} (sub : ∀ pl', pl ≤ pl' → SS h0 c0 tp n k tw hl T0 169 3 4 pl') : SS h0 c0 tp n k tw hl T0 168 2 5 pl := by
  intro h L kn op W m d p room hop pre hm hd
  have w := p.1.1.1
  obtain ⟨e, rfl⟩ : ∃ e, d = e + 7 := ⟨d - 7, by unfold need at hd; omega⟩
  have hW : lev W < 2 := by have := pre.1 (by decide); omega
  obtain ⟨h1, a1, f1, r1⟩ := sub pl (Int.le_refl _) h L kn op W m (e + 6) p room hop ⟨fun _ => Or.inl (by omega), fun u => absurd u (by decide)⟩ hm (by omega)
  rw [ce_168, e168_0, if_pos (F_a311 w), Cl_eq _ a1]
  rcases r1 with ⟨x, pc, e0, g1, g2, g3⟩ | ⟨L', kn', pl', m', p3, b1, b2, b3, b4, b5, c⟩
  · have q30 : ¬ ld h1 311 30 = 0 := by rw [g1]; exact e0
    exact ⟨h1, l4_168f f1.1 q30 (e + 6), f1, Or.inl ⟨x, pc, e0, g1, g2, g3⟩⟩
  · exact lp_168 hop hW ⟨room.1, by omega⟩ e hd (fun pl' u => sub pl' (Int.le_of_lt u)) ((n - pl').toNat + 1) h1 L' kn' pl' m' (by omega) p3 b3 b4 b5 b1.1 b2 (by
      rcases c with ⟨c1, c2⟩ | ⟨-, c2, c3⟩
      · exact Or.inl ⟨c2, c1⟩
      · exact Or.inr ⟨c2, c3⟩)
theorem lp_167 {W : List Int} {op D kn0 pl0 : Int} {L0 : List (Int × Int)} {Z : LnR} (hop : 0 ≤ op ∧ op ≤ 8) (hW : lev W < 1) (hc : 0 ≤ c0 ∧ c0 + D ≤ 0) (d : Nat) (hd : need op kn0 + 6 ≤ ((d + 7 : Nat) : Int)) (sub : ∀ pl', pl0 < pl' → SS h0 c0 tp n k tw hl T0 168 2 5 pl') : ∀ (N : Nat) (h : Hp) (L : List (Int × Int)) (kn pl : Int) (m : Nat), n - pl < N → PE h0 c0 h tp n pl L kn op → kn0 < kn ∧ kn ≤ 64 → (L.length : Int) - kn = D → XE L0 L → pl0 < pl → n - pl < m → ((¬ (2 ≤ tlev (tkn tp n pl) ∧ ¬ tkn tp n pl = -20) ∧ Z = clL tp n k tw hl m false (tF T0 k L) W op kn pl) ∨ (tlev (tkn tp n pl) = 4 ∧ Z = .error (1, pl))) → ∃ h', V (d + 7) 167 4 [(2, 311)] [] h = some ((9, 0), h') ∧ RS h0 c0 tp n k tw hl T0 1 W op L0 D kn0 pl0 Z h' := by
  intro N
  induction N with
  | zero =>
    intro h L kn pl m hN p
    have := PP_le p.1
    omega
  | succ N ih =>
    intro h L kn pl m hN p hk hD hE hpl hm hZ0
    have w := p.1.1.1
    have tb := (tkn_c tp n pl).1
    have lt := lvt tb
    have ple := PP_le p.1
    have r1 := rk_146t p.1 (x := 11) (t := (-18)) (by decide) (d + 6)
    by_cases q : tkn tp n pl = (-18)
    · rcases hZ0 with ⟨nx, hZ⟩ | ⟨z4, -⟩
      · have e17 : V (d + 7) 167 4 [(2, 311)] [] h = Cl (d + 7) 166 [(2, 311)] 9 h (fun r2 h2 => V (d + 7) 167 17 [(2, 311)] [] h2) := by
          rw [e167_4, if_pos (F_a311 w), Cl_eq _ r1, decide_eq_true q, if_neg (by decide), if_pos (F_a311 w)]
        have hpn := tk_lt (tp := tp) (show ¬ tkn tp n pl = -1 by omega)
        have ag := adv_gt (tp := tp) hpn
        obtain ⟨m1, rfl⟩ : ∃ m1, m = m1 + 1 := ⟨m - 1, by omega⟩
        have hl6 : tlev (tkn tp n pl) = 1 := by omega
        have eZ := hZ.trans (clL_op rfl (by omega) (by rw [if_neg (by omega)]; omega) (by omega) m1)
        rw [e17]
        obtain ⟨k1, k2⟩ := PE_166 p ⟨by omega, hk.2⟩ (d + 5)
        by_cases q2 : kn < 64
        · obtain ⟨a1, p1⟩ := k1 q2
          have w1 := p1.1.1.1
          obtain ⟨h2, a2, p2⟩ := PE_148 p1 d
          have w2 := p2.1.1.1
          rw [if_pos q2] at eZ
          obtain ⟨h3, a3, f3, r3⟩ := sub (adv tp n pl) (by omega) h2 L (kn + 1) op (tkn tp n pl :: W) m1 (d + 6) p2 ⟨hc.1, by omega, by omega⟩ hop ⟨fun _ => Or.inl (by show tlev (tkn tp n pl) < 2; omega), fun u => absurd u (by decide)⟩ (by omega) (by unfold need at hd ⊢; omega)
          rw [← eZ] at r3
          rw [Cl_eq _ a1, e167_17, if_pos (F_a311 w1), Cl_eq _ a2, if_pos (F_a311 w2), Cl_eq _ a3, if_pos (F_a311 f3.1)]
          rcases r3 with ⟨e, pc, e0, g1, g2, g3⟩ | ⟨L', kn', pl', m', p3, b1, b2, b3, b4, b5, c⟩
          · have q30 : ¬ ld h3 311 30 = 0 := by rw [g1]; exact e0
            refine ⟨h3, ?_, f3, Or.inl ⟨e, pc, e0, g1, g2, g3⟩⟩
            rw [Cl_eq _ (rk_165f f3.1 q30 _ _ (d + 6)), e167_33, l4_167f f3.1 q30 (d + 6)]
          · have lt' := lvt (tkn_c tp n pl').1
            obtain ⟨h4, a4, p4⟩ := PE_165 p3 ⟨hc.1, by omega⟩ (ks2 (t := tkn tp n pl) (by omega)) (v := 262) (x := 0) (by rw [q]; rfl) (I32_of (by decide)) (d + 5)
            have hD' : ((L' ++ [(tkn tp n pl, (0 : Int))]).length : Int) - kn' = D := by rw [List.length_append]; show ((L'.length + 1 : Nat) : Int) - kn' = D; omega
            have new : (¬ (2 ≤ tlev (tkn tp n pl') ∧ ¬ tkn tp n pl' = -20) ∧ Z = clL tp n k tw hl m' false (tF T0 k (L' ++ [(tkn tp n pl, 0)])) W op kn' pl') ∨ (tlev (tkn tp n pl') = 4 ∧ Z = .error (1, pl')) := by
              rcases c with ⟨c1, c2⟩ | ⟨-, c2, c3⟩
              · have rel := clL_rel (tp := tp) (n := n) (pl := pl') (k := k) (tw := tw) (hl := hl) (t := tkn tp n pl) (T := tF T0 k L') (W := W) (op := op) (kn := kn') (by
                  unfold rth
                  split
                  · omega
                  split
                  · omega
                  · omega) (by omega) m'
                rw [tF_put] at rel
                exact Or.inl ⟨c2, c1.trans rel⟩
              · exact Or.inr ⟨c2, c3⟩
            obtain ⟨h', a', r'⟩ := ih h4 (L' ++ [(tkn tp n pl, 0)]) kn' pl' m' (by omega) p4 ⟨by omega, by omega⟩ hD' (XE_2 hE b5 (by omega) 0) (by omega) b2 new
            exact ⟨h', by rw [Cl_eq _ a4, e167_33]; exact a', r'⟩
        · have f2 := FrE_flt p.2.1 2 pl
          have q30 : ¬ ld (flt h 2 pl) 311 30 = 0 := by rw [flt_30]; decide
          rw [if_neg q2] at eZ
          refine ⟨flt h 2 pl, ?_, f2, Or.inl ⟨2, pl, by decide, flt_30 _ _ _, flt_31 _ _ _, eZ⟩⟩
          rw [Cl_eq _ (k2 q2), e167_17, if_pos (F_a311 f2.1), Cl_eq _ (rk_148f f2.1 q30 (d + 6)), if_pos (F_a311 f2.1), Cl_eq _ (rk_168f f2.1 q30 (d + 2)), if_pos (F_a311 f2.1), Cl_eq _ (rk_165f f2.1 q30 _ _ (d + 6)), e167_33, l4_167f f2.1 q30 (d + 6)]
      · omega
    · refine ⟨h, ?_, p.2.1, Or.inr ⟨L, kn, pl, m, p, ⟨hpl, ple⟩, hm, hk, hD, hE, ?_⟩⟩
      · rw [e167_4, if_pos (F_a311 w), Cl_eq _ r1, decide_eq_false q, if_pos bI_f, e167_36]
      · rcases hZ0 with ⟨nx, hZ⟩ | ⟨z4, z5⟩
        · exact Or.inl ⟨hZ, by omega⟩
        · exact Or.inr ⟨by decide, z4, z5⟩
theorem SS_167 {pl : Int} (sub : ∀ pl', pl ≤ pl' → SS h0 c0 tp n k tw hl T0 168 2 5 pl') : SS h0 c0 tp n k tw hl T0 167 1 6 pl := by
  intro h L kn op W m d p room hop pre hm hd
  have w := p.1.1.1
  obtain ⟨e, rfl⟩ : ∃ e, d = e + 7 := ⟨d - 7, by unfold need at hd; omega⟩
  have hW : lev W < 1 := by have := pre.1 (by decide); omega
  obtain ⟨h1, a1, f1, r1⟩ := sub pl (Int.le_refl _) h L kn op W m (e + 6) p room hop ⟨fun _ => Or.inl (by omega), fun u => absurd u (by decide)⟩ hm (by omega)
  rw [ce_167, e167_0, if_pos (F_a311 w), Cl_eq _ a1]
  rcases r1 with ⟨x, pc, e0, g1, g2, g3⟩ | ⟨L', kn', pl', m', p3, b1, b2, b3, b4, b5, c⟩
  · have q30 : ¬ ld h1 311 30 = 0 := by rw [g1]; exact e0
    exact ⟨h1, l4_167f f1.1 q30 (e + 6), f1, Or.inl ⟨x, pc, e0, g1, g2, g3⟩⟩
  · exact lp_167 hop hW ⟨room.1, by omega⟩ e hd (fun pl' u => sub pl' (Int.le_of_lt u)) ((n - pl').toNat + 1) h1 L' kn' pl' m' (by omega) p3 b3 b4 b5 b1.1 b2 (by
      rcases c with ⟨c1, c2⟩ | ⟨-, c2, c3⟩
      · exact Or.inl ⟨c2, c1⟩
      · exact Or.inr ⟨c2, c3⟩)
end ED
