/-! layer 2: what is bound, what binds -/
def tkf2 (t : Int) : Int := (tokFd.getD (-1 - t).toNat []).getD 2 0
def tnm (tp : Int → Int) (n pl : Int) : Int := if tkn tp n pl = -4 then wN tp n pl else 0
abbrev CsR := Except (Int × Int) (Wd × List Int × Int × Int)
def clOpd (tp : Int → Int) (n : Int) (k : Nat) (T : Wd) (W : List Int) (op kn pl : Int) : CsR :=
  if tkn tp n pl = -6 then (if 8 < op + 1 then .error (2, pl) else .ok (T, (-6) :: W, op + 1, kn))
  else if tkn tp n pl = -20 then (if 3 < lev W then .error (1, pl) else if kn < 64 then .ok (T, (-20) :: W, op, kn + 1) else .error (2, pl))
  else if tkn tp n pl = -4 ∧ ¬ nck tp n pl 0 9999 = 0 then .error (nck tp n pl 0 9999, pl)
  else if ¬ tkn tp n pl = -4 ∧ tkf2 (tkn tp n pl) = -1 then .error (1, pl)
  else if kn < 64 then .ok (tPut T k (tkn tp n pl) (tnm tp n pl), W, op, kn + 1) else .error (2, pl)
def clOpr (tp : Int → Int) (n : Int) (k : Nat) (T : Wd) (W : List Int) (op kn pl : Int) : CsR :=
  let l := tlev (tkn tp n pl)
  let X := rls k (if l = 4 then 5 else l) W T
  if l = 4 ∧ lev X.2 = 4 then .error (1, pl)
  else if kn < 64 then .ok (X.1, tkn tp n pl :: X.2, op, kn + 1) else .error (2, pl)
def PX (h : Hp) (tp : Int → Int) (b n pl : Int) (T : Wd) (tw hl kn : Int) (W : List Int) (op : Int) : Prop := PL h tp b n pl T tw hl kn ∧ WS h W ∧ ld h 3 4 = op
def XI (W : List Int) (op kn : Int) : Prop := (W.length : Int) ≤ op + kn ∧ (0 ≤ op ∧ op ≤ 8) ∧ (0 ≤ kn ∧ kn ≤ 64)
def CsA (tp : Int → Int) (b n pl tw hl r : Int) (h' : Hp) : CsR → Prop
  | .error (k, pc) => r = 0 ∧ ld h' 3 7 = k ∧ ld h' 3 8 = pc
  | .ok (T, W, op, kn) => r = 1 ∧ PX h' tp b n pl T tw hl kn W op ∧ XI W op kn
theorem tkf2_tb : (List.range 40).all (fun k => decide ((tokFd.getD k []).getD 2 0 = -1 ∨ 31 ≤ k ∨ k = 3)) = true := by decide +kernel
theorem rls_len (k : Nat) (lv : Int) : ∀ (W : List Int) (T : Wd), (rls k lv W T).2.length ≤ W.length
  | [], _ => Nat.le_refl _
  | t :: W, T => by
    unfold rls
    split
    · exact Nat.le_refl _
    · exact Nat.le_trans (rls_len k lv W _) (by rw [List.length_cons]; omega)
section TM
variable {h : Hp} {tp : Int → Int} {b n pl : Int} {T : Wd} {tw hl kn : Int} {W : List Int} {op : Int}
theorem WS_3 (ws : WS h W) {j : Int} (h3 : j ≠ 3) (v : Int) : WS (st h 3 j v) W := by
  obtain ⟨w1, w2, w3, w4⟩ := ws
  exact ⟨(ld_st_ne (Or.inr (fun z => h3 z.symm))).trans w1, (stk_cong (fun j _ _ => ld_st_ne (Or.inl (by decide)))).trans w2, w3, w4⟩
theorem CsA_f (p : PL h tp b n pl T tw hl kn) (k : Int) : FrP b h (st (st h 3 7 k) 3 8 pl) ∧ CsA tp b n pl tw hl 0 (st (st h 3 7 k) 3 8 pl) (.error (k, pl)) := by
  obtain ⟨f, r, e7, e8⟩ := LnA_f p k
  exact ⟨f, rfl, e7, e8⟩
theorem kq_52x (p : PX h tp b n pl T tw hl kn W op) (hk : 0 ≤ kn ∧ kn ≤ 64) (d : Nat) : ∃ r h', C (d + 1) 52 [(2, 3)] h = some ((0, r), h') ∧ FrP b h h' ∧ (if kn < 64 then r = 1 ∧ PX h' tp b n pl T tw hl (kn + 1) W op else r = 0 ∧ ld h' 3 7 = 2 ∧ ld h' 3 8 = pl) := by
  obtain ⟨p1, p2, p3⟩ := p
  obtain ⟨a, l⟩ := kq_52 p1 hk d
  have f1 := FrP_3 (b := b) p1.1.1.1 (j := 5) (by decide) (kn + 1)
  by_cases q : kn < 64
  · rw [if_pos q] at a
    exact ⟨1, _, a, f1, by rw [if_pos q]; exact ⟨rfl, l, WS_3 p2 (by decide) _, (ld_st_ne (Or.inr (by decide))).trans p3⟩⟩
  · rw [if_neg q] at a
    obtain ⟨g1, -, g2, g3⟩ := LnA_f l 2
    exact ⟨0, _, a, FrP_tr f1 g1, by rw [if_neg q]; exact ⟨rfl, g2, g3⟩⟩
theorem kq_53x (p : PX h tp b n pl T tw hl kn W op) (h72 : W.length < 72) {t : Int} (ht : -38 ≤ t ∧ t ≤ -1) (d : Nat) : ∃ h', C d 53 [(2, 3), (2, t)] h = some ((0, 1), h') ∧ FrP b h h' ∧ PX h' tp b n pl T tw hl kn (t :: W) op := by
  obtain ⟨p1, p2, p3⟩ := p
  obtain ⟨a, l, ws⟩ := kq_53 p1 p2 h72 ht d
  have w1 : WF (st h 36 (W.length : Int) t) := wf_st p1.1.1.1 (npt_A (by decide +kernel) _)
  have f0 : FrP b h (st h 36 (W.length : Int) t) := ⟨w1, ⟨rfl, fun _ z => by unfold NB; rw [ld_st_ne (Or.inl (by decide))]; exact z⟩, fun a j _ _ _ e => ld_st_ne (Or.inl e)⟩
  exact ⟨_, a, FrP_tr f0 (FrP_3 w1 (j := 3) (by decide) _), l, ws, by rw [ld_st_ne (Or.inr (by decide)), ld_st_ne (Or.inl (by decide))]; exact p3⟩
theorem kq_50 (p : PX h tp b n pl T tw hl kn W op) (xi : XI W op kn) {k : Nat} (hk : k < 3) (d : Nat) : ∃ r h', C (d + 3) 50 [(2, 3), (2, b + 18 + 4 * (k : Int))] h = some ((0, r), h') ∧ FrP b h h' ∧ CsA tp b n pl tw hl r h' (clOpd tp n k T W op kn pl) := by
  obtain ⟨p1, p2, p3⟩ := id p
  obtain ⟨x1, x2, x3⟩ := xi
  have w := p1.1.1.1
  have g3 := p1.1.2.2.2.2.1
  have tb := (tkn_c tp n pl).1
  have it : isTok (tkn tp n pl) = true := by unfold isTok; simp; omega
  unfold clOpd
  rw [ce_50, e50_0, if_pos (F_a3 w), P3_0 w, if_pos (F_a4 w), g3, if_pos ⟨it, by decide⟩]
  by_cases q6 : tkn tp n pl = -6
  · have l1 := PL_3 p1 (j := 4) (by decide) (by decide) (op + 1)
    have w1 := l1.1.1.1
    have f1 := FrP_3 (b := b) w (j := 4) (by decide) (op + 1)
    have ws1 := WS_3 p2 (j := 4) (by decide) (op + 1)
    rw [if_pos q6, if_pos q6, if_pos (F_a3 w), if_pos (W_a3 w), p3, show w32 (op + 1) = op + 1 by unfold w32; omega, e50_25, if_pos (F_a3 w1), ld_st_eq]
    by_cases q : 8 < op + 1
    · rw [if_pos q, if_pos q, if_pos (F_a3 w1), Cl_eq _ (kq_35 l1.1 2 (d + 2)).1, e50_47, if_pos (by decide)]
      obtain ⟨g1, g2⟩ := CsA_f l1 2
      exact ⟨0, _, rfl, FrP_tr f1 g1, g2⟩
    · obtain ⟨h', a, f, px⟩ := kq_53x (op := op + 1) ⟨l1, ws1, ld_st_eq _ _ _ _⟩ (by omega) (t := -6) (by decide) (d + 2)
      rw [if_neg q, if_neg q, e50_42, if_pos (F_a3 w1), q6, Cl_eq _ a, e50_47, if_pos (by decide)]
      refine ⟨1, h', rfl, FrP_tr f1 f, rfl, px, ?_, ?_, x3⟩
      · rw [List.length_cons]; omega
      · omega
  rw [if_neg q6, if_neg q6, e50_48, if_pos ⟨it, by decide⟩]
  by_cases q20 : tkn tp n pl = -20
  · rw [if_pos q20, if_pos q20, if_pos (F_a3 w), Cl_eq _ (kq_54 w p2 (d + 2))]
    by_cases q : 3 < lev W
    · rw [if_pos q, if_pos q, e50_63, if_pos (F_a3 w), Cl_eq _ (kq_35 p1.1 1 (d + 2)).1, e50_91, if_pos (by decide)]
      obtain ⟨g1, g2⟩ := CsA_f p1 1
      exact ⟨0, _, rfl, g1, g2⟩
    · obtain ⟨r1, h1, a1, f1, c1⟩ := kq_52x p x3 (d + 1)
      rw [if_neg q, if_neg q, e50_71, if_pos (F_a3 w), Cl_eq _ a1]
      by_cases z : kn < 64
      · rw [if_pos z] at c1
        obtain ⟨r, px⟩ := c1
        obtain ⟨h', a, f, px'⟩ := kq_53x px (by omega) (t := -20) (by decide) (d + 2)
        rw [r, if_neg (by decide), if_pos (F_a3 px.1.1.1.1), q20, Cl_eq _ a, if_neg (by decide), e50_86, e50_91, if_pos (by decide), if_pos z]
        refine ⟨1, h', rfl, FrP_tr f1 f, rfl, px', ?_, x2, by omega⟩
        rw [List.length_cons]; omega
      · rw [if_neg z] at c1
        rw [c1.1, if_pos rfl, e50_90, e50_91, if_pos (by decide), if_neg z]
        exact ⟨0, h1, rfl, f1, rfl, c1.2⟩
  rw [if_neg q20, if_neg q20, e50_92, if_pos ⟨it, by decide⟩]
  have last : ∀ v : Int, I32 v → kval (tkn tp n pl) v = kval (tkn tp n pl) (tnm tp n pl) → ld h 4 5 = v → ∃ r h', V (d + 3) 50 126 [(2, 3), (2, b + 18 + 4 * (k : Int)), (2, tkn tp n pl)] [] h = some ((0, r), h') ∧ FrP b h h' ∧ CsA tp b n pl tw hl r h' (if kn < 64 then .ok (tPut T k (tkn tp n pl) (tnm tp n pl), W, op, kn + 1) else .error (2, pl)) := by
    intro v hv ev el
    obtain ⟨r1, h1, a1, f1, c1⟩ := kq_52x p x3 (d + 1)
    rw [e50_126, if_pos (F_a3 w), Cl_eq _ a1]
    by_cases z : kn < 64
    · rw [if_pos z] at c1
      obtain ⟨r, px⟩ := c1
      obtain ⟨l1, ws1, o1⟩ := id px
      have w1 := l1.1.1.1
      obtain ⟨fq, h2, a2, f2, l2⟩ := kq_81p l1 hk tb hv (d + 2)
      have e45 : ld h1 4 5 = v := by
        rw [← el]
        have : h1 = st h 3 5 (kn + 1) := by
          have := (kq_52 p1 x3 (d + 1)).1
          rw [if_pos z, a1] at this
          exact (Prod.mk.inj (Option.some.inj this)).2
        rw [this]; exact ld_st_ne (Or.inl (by decide))
      rw [r, if_neg (by decide), e50_135, if_pos (F_a3 w1), P3_0 w1, if_pos (F_a4 w1), if_pos fq, e45, Cl_eq _ a2, e50_147, if_pos (by decide), if_pos z]
      refine ⟨1, h2, rfl, FrP_tr f1 (FrP_B f2), rfl, ⟨?_, WS_b ws1 f2 p1.1.2.2.1, (BkF_p f2 p1.1.2.2.1 3 4 (by decide)).trans o1⟩, by unfold XI; omega⟩
      have ep : tPut T k (tkn tp n pl) v = tPut T k (tkn tp n pl) (tnm tp n pl) := by unfold tPut tKno; rw [ev]
      rw [← ep]; exact l2
    · rw [if_neg z] at c1
      rw [c1.1, if_pos rfl, if_pos (by decide), if_neg z]
      exact ⟨0, h1, rfl, f1, rfl, c1.2⟩
  by_cases q4 : tkn tp n pl = -4
  · obtain ⟨n1, m1⟩ := kq_39n p1 (lo := 0) (hi := 9999) (by decide) (by decide) (d + 1)
    rw [if_pos q4, if_pos (F_a3 w)]
    by_cases z : nck tp n pl 0 9999 = 0
    · obtain ⟨v1, b1⟩ := m1 z
      rw [if_pos z] at n1
      rw [Cl_eq _ n1, if_neg (by decide), if_neg (fun y => y.2 z), if_neg (fun y => y.1 q4)]
      exact last (wN tp n pl) (I32_of (by omega)) (by unfold tnm; rw [if_pos q4]) v1
    · rw [if_neg z] at n1
      rw [Cl_eq _ n1, if_pos rfl, e50_110, if_pos (by decide), if_pos ⟨q4, z⟩]
      obtain ⟨g1, g2⟩ := CsA_f p1 (nck tp n pl 0 9999)
      exact ⟨0, _, rfl, g1, g2⟩
  · rw [if_neg q4, if_neg (fun y => q4 y.1), e50_112, if_pos (tk_F tb), tk_ld w tb 2]
    show ∃ r h', (if tkf2 (tkn tp n pl) = -1 then _ else _) = _ ∧ _
    by_cases z : tkf2 (tkn tp n pl) = -1
    · rw [if_pos z, if_pos (show ¬ tkn tp n pl = -4 ∧ tkf2 (tkn tp n pl) = -1 from ⟨q4, z⟩), if_pos (F_a3 w), Cl_eq _ (kq_35 p1.1 1 (d + 2)).1, if_pos (by decide)]
      obtain ⟨g1, g2⟩ := CsA_f p1 1
      exact ⟨0, _, rfl, g1, g2⟩
    · rw [if_neg z, if_neg (fun y => z y.2)]
      have h5 := p1.1.2.2.2.2.2.2.1
      have h5 : 0 ≤ ld h 4 5 ∧ ld h 4 5 ≤ 100000 := h5
      have hv5 : I32 (ld h 4 5) := by unfold I32; omega
      refine last (ld h 4 5) hv5 ?_ rfl
      have := of_decide_eq_true (List.all_eq_true.mp tkf2_tb (-1 - tkn tp n pl).toNat (List.mem_range.mpr (by omega)))
      have h31 : tkn tp n pl ≤ -32 := by
        rcases this with y | y | y
        · exact absurd y z
        · omega
        · omega
      unfold kval
      rw [if_neg (by omega), if_pos (by omega), if_neg (by omega), if_pos (by omega)]
theorem kq_51 (p : PX h tp b n pl T tw hl kn W op) (xi : XI W op kn) {k : Nat} (hk : k < 3) (d : Nat) : ∃ r h', C (d + 3) 51 [(2, 3), (2, b + 18 + 4 * (k : Int))] h = some ((0, r), h') ∧ FrP b h h' ∧ CsA tp b n pl tw hl r h' (clOpr tp n k T W op kn pl) := by
  obtain ⟨p1, p2, p3⟩ := id p
  obtain ⟨x1, x2, x3⟩ := xi
  have w := p1.1.1.1
  have g3 := p1.1.2.2.2.2.1
  have tb := (tkn_c tp n pl).1
  obtain ⟨h1, a1, f1, l1, ws1, o1⟩ := kq_55 hk (if tlev (tkn tp n pl) = 4 then 5 else tlev (tkn tp n pl)) (d + 1) W T h p1 p2
  have w1 := l1.1.1.1
  have hlen := rls_len k (if tlev (tkn tp n pl) = 4 then 5 else tlev (tkn tp n pl)) W T
  have px1 : PX h1 tp b n pl (rls k (if tlev (tkn tp n pl) = 4 then 5 else tlev (tkn tp n pl)) W T).1 tw hl kn (rls k (if tlev (tkn tp n pl) = 4 then 5 else tlev (tkn tp n pl)) W T).2 op := ⟨l1, ws1, o1.trans p3⟩
  have e23 : V (d + 3) 51 0 [(2, 3), (2, b + 18 + 4 * (k : Int)), (9, 0)] [] h = V (d + 3) 51 23 [(2, 3), (9, 0), (0, tlev (tkn tp n pl))] [(0, if tlev (tkn tp n pl) = 4 then 5 else tlev (tkn tp n pl)), (2, b + 18 + 4 * (k : Int)), (2, 3)] h := by
    rw [e51_0, if_pos (F_a3 w), P3_0 w, if_pos (F_a4 w), g3, if_pos (tk_F tb), tk_ld w tb 1]
    show (if tlev (tkn tp n pl) = 4 then _ else _) = _
    by_cases z : tlev (tkn tp n pl) = 4
    · simp only [if_pos z]; rfl
    · simp only [if_neg z]; exact e51_22 _ _ _ _ _ _
  rw [ce_51, e23, e51_23, if_pos (F_a3 w), Cl_eq _ ((ce_55 _ _ _ _ _).trans a1)]
  unfold clOpr
  dsimp only
  generalize rls k (if tlev (tkn tp n pl) = 4 then 5 else tlev (tkn tp n pl)) W T = X at *
  have tail : ∃ r h', V (d + 3) 51 45 [(2, 3), (9, 0), (9, 0)] [] h1 = some ((0, r), h') ∧ FrP b h h' ∧ CsA tp b n pl tw hl r h' (if kn < 64 then .ok (X.1, tkn tp n pl :: X.2, op, kn + 1) else .error (2, pl)) := by
    obtain ⟨r2, h2, a2, f2, c2⟩ := kq_52x px1 x3 (d + 1)
    rw [e51_45, if_pos (F_a3 w1), Cl_eq _ a2]
    by_cases z : kn < 64
    · rw [if_pos z] at c2
      obtain ⟨r, px⟩ := c2
      have w2 := px.1.1.1.1
      obtain ⟨h', a, f, px'⟩ := kq_53x px (by omega) tb (d + 2)
      rw [r, if_neg (by decide), if_pos (F_a3 w2), P3_0 w2, if_pos (F_a4 w2), if_pos (F_a3 w2), px.1.1.2.2.2.2.1, Cl_eq _ a, if_neg (by decide), e51_66, e51_71, if_pos (by decide), if_pos z]
      refine ⟨1, h', rfl, FrP_tr f1 (FrP_tr f2 f), rfl, px', ?_, x2, by omega⟩
      rw [List.length_cons]; omega
    · rw [if_neg z] at c2
      rw [c2.1, if_pos rfl, e51_70, e51_71, if_pos (by decide), if_neg z]
      exact ⟨0, h2, rfl, FrP_tr f1 f2, rfl, c2.2⟩
  by_cases z : tlev (tkn tp n pl) = 4
  · rw [if_pos z, if_pos (F_a3 w1), Cl_eq _ (kq_54 w1 ws1 (d + 2))]
    by_cases y : lev X.2 = 4
    · rw [if_pos y, if_pos ⟨z, y⟩, e51_39, if_pos (F_a3 w1), Cl_eq _ (kq_35 l1.1 1 (d + 2)).1, if_pos (by decide)]
      obtain ⟨g1, g2⟩ := CsA_f l1 1
      exact ⟨0, _, rfl, FrP_tr f1 g1, g2⟩
    · rw [if_neg y, if_neg (fun x => y x.2)]
      exact tail
  · rw [if_neg z, if_neg (fun x => z x.1)]
    exact tail
end TM
