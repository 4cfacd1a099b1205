/-! layer 2: the descent's leaves, negations, the whole of it -/
section EX3
variable {h0 h : Hp} {tp : Int → Int} {n c0 : Int} {k : Nat} {tw hl : Int} {T0 : Wd}
/-- what is put down behind an operand -/
theorem tl_f (w : WF h) (q : ¬ ld h 311 30 = 0) {x1 : Int} (d : Nat) : V (d + 1) 172 162 [(2, 311), (0, x1)] [] h = some ((9, 0), h) := by
  have e194 : ∀ s0 s1 : Int, V (d + 1) 172 194 [(2, 311), (9, 0)] [(0, s0), (0, s1), (2, 311)] h = some ((9, 0), h) := fun s0 s1 => by
    rw [e172_194, if_pos (F_a311 w), Cl_eq _ (rk_165f w q _ _ d), if_pos (F_a311 w), Cl_eq _ (rk_148f w q d)]
  have e176 : ∀ s0 : Int, V (d + 1) 172 176 [(2, 311), (0, x1)] [(0, s0), (2, 311)] h = some ((9, 0), h) := fun s0 => by
    rw [e172_176]
    by_cases y : x1 = 0
    · rw [if_pos y, e172_187, if_pos (F_a311 w), e194]
    · rw [if_neg y, if_pos (F_a311 w), e194]
  rw [e172_162, if_pos (F_a311 w), Cl_eq _ (rk_166f w q d)]
  by_cases y : x1 = 0
  · rw [if_pos y, e172_175, e176]
  · rw [if_neg y, e176]
theorem tl_p {L : List (Int × Int)} {kn op pl x1 s v t x : Int} (p : PE h0 c0 h tp n pl L kn op) (hc : 0 ≤ c0 ∧ c0 + (L.length : Int) ≤ kn ∧ kn ≤ 64) (hs : ksort t = s) (hv : kval t x = v) (hI : I32 x) (hx : (x1 = 1 ∧ s = 0 ∧ ld h 311 29 = v) ∨ (x1 = 0 ∧ s = 1 ∧ w32 (ld h 311 29 - 14) = v)) (d : Nat) : (kn < 64 → ∃ h', V (d + 7) 172 162 [(2, 311), (0, x1)] [] h = some ((9, 0), h') ∧ PE h0 c0 h' tp n (adv tp n pl) (L ++ [(t, x)]) (kn + 1) op) ∧ (¬ kn < 64 → V (d + 7) 172 162 [(2, 311), (0, x1)] [] h = some ((9, 0), flt h 2 pl)) := by
  have w := p.1.1.1
  obtain ⟨k1, k2⟩ := PE_166 p ⟨by omega, hc.2.2⟩ (d + 5)
  refine ⟨fun q => ?_, fun q => ?_⟩
  · obtain ⟨a1, p1⟩ := k1 q
    have w1 := p1.1.1.1
    obtain ⟨h2, a2, p2⟩ := PE_165 p1 ⟨hc.1, by omega⟩ hs hv hI (d + 5)
    have w2 := p2.1.1.1
    obtain ⟨h3, a3, p3⟩ := PE_148 p2 d
    have e29 : ld (st h 311 35 (kn + 1)) 311 29 = ld h 311 29 := ld_st_ne (Or.inr (by decide))
    generalize st h 311 35 (kn + 1) = h1 at *
    refine ⟨h3, ?_, p3⟩
    have e194 : V (d + 7) 172 194 [(2, 311), (9, 0)] [(0, v), (0, s), (2, 311)] h1 = some ((9, 0), h3) := by
      rw [e172_194, if_pos (F_a311 w1), Cl_eq _ a2, if_pos (F_a311 w2), Cl_eq _ a3]
    rw [e172_162, if_pos (F_a311 w), Cl_eq _ a1]
    rcases hx with ⟨rfl, rfl, z⟩ | ⟨rfl, rfl, z⟩
    · rw [if_neg (by decide), e172_176, if_neg (by decide), if_pos (F_a311 w1), e29, z, e194]
    · rw [if_pos rfl, e172_175, e172_176, if_pos rfl, e172_187, if_pos (F_a311 w1), e29, z, e194]
  · have f2 := FrE_flt p.2.1 2 pl
    have q30 : ¬ ld (flt h 2 pl) 311 30 = 0 := by rw [flt_30]; decide
    have e194 : ∀ s0 s1 : Int, V (d + 7) 172 194 [(2, 311), (9, 0)] [(0, s0), (0, s1), (2, 311)] (flt h 2 pl) = some ((9, 0), flt h 2 pl) := fun s0 s1 => by
      rw [e172_194, if_pos (F_a311 f2.1), Cl_eq _ (rk_165f f2.1 q30 _ _ (d + 6)), if_pos (F_a311 f2.1), Cl_eq _ (rk_148f f2.1 q30 (d + 6))]
    rw [e172_162, if_pos (F_a311 w), Cl_eq _ (k2 q)]
    rcases hx with ⟨rfl, -⟩ | ⟨rfl, -⟩
    · rw [if_neg (by decide), e172_176, if_neg (by decide), if_pos (F_a311 f2.1), e194]
    · rw [if_pos rfl, e172_175, e172_176, if_pos rfl, e172_187, if_pos (F_a311 f2.1), e194]
theorem SS_172 {pl : Int} (sub : ∀ pl', pl < pl' → SS h0 c0 tp n k tw hl T0 167 1 6 pl') : SS h0 c0 tp n k tw hl T0 172 7 1 pl := by
  intro h L kn op W m d p room hop pre hm hd
  obtain ⟨hc0, hr, h64⟩ := id room
  have w := p.1.1.1
  obtain ⟨e, rfl⟩ : ∃ e, d = e + 8 := ⟨d - 8, by unfold need at hd; omega⟩
  have tb := (tkn_c tp n pl).1
  have lt := lvt tb
  have ple := PP_le p.1
  obtain ⟨m1, rfl⟩ : ∃ m1, m = m1 + 1 := ⟨m - 1, by omega⟩
  have r40 := rk_147t p.1 (t := -6) (by decide) (e + 7)
  rw [show svt (-6) = 40 from rfl] at r40
  have fin : ∀ (kk : Int) (Z : LnR), ¬ kk = 0 → Z = .error (kk, pl) → RS h0 c0 tp n k tw hl T0 7 W op L ((L.length : Int) - kn) kn pl Z (flt h kk pl) := fun kk Z k0 z => ⟨FrE_flt p.2.1 kk pl, Or.inl ⟨kk, pl, k0, flt_30 _ _ _, flt_31 _ _ _, z⟩⟩
  rw [ce_172, e172_0, if_pos (F_a311 w), p.1.2.2.2.1, if_pos rfl, e172_8, if_pos (F_a311 w), Cl_eq _ r40]
  by_cases q6 : tkn tp n pl = -6
  · have hpn := tk_lt (tp := tp) (show ¬ tkn tp n pl = -1 by omega)
    have ag := adv_gt (tp := tp) hpn
    rw [decide_eq_true q6, if_neg (by decide), if_pos (F_a311 w), p.2.2.2.1]
    by_cases q8 : op = 8
    · have wf := flt_w w 2 pl
      refine ⟨flt h 2 pl, ?_, fin 2 _ (by decide) (by rw [clL_par q6, if_pos (by omega)])⟩
      rw [if_pos q8, e172_26, if_pos (F_a311 w), Cl_eq _ (rk_145p p.1 2 (e + 7)), e172_31, if_pos (F_a311 wf), flt_30, if_neg (by decide)]
    · have pA := PE_34 p (op + 1)
      have wA := pA.1.1.1
      obtain ⟨h1, a1, p1⟩ := PE_adv pA (e + 2)
      have w1 := p1.1.1.1
      obtain ⟨h2, a2, f2, r2⟩ := sub (adv tp n pl) ag.1 h1 L kn (op + 1) ((-6) :: W) m1 (e + 7) p1 room ⟨by omega, by omega⟩ ⟨fun _ => Or.inl (by show tlev (-6) < 1; decide), fun u => absurd u (by decide)⟩ (by omega) (by unfold need at hd ⊢; omega)
      have eZ : clL tp n k tw hl (m1 + 1) true (tF T0 k L) W op kn pl = clL tp n k tw hl m1 true (tF T0 k L) ((-6) :: W) (op + 1) kn (adv tp n pl) := by rw [clL_par q6, if_neg (by omega)]
      rw [← eZ] at r2
      have e49 : V (e + 8) 172 31 [(2, 311), (9, 0)] [] h = if ld h2 311 30 = 0 then V (e + 8) 172 64 [(2, 311), (9, 0)] [] h2 else V (e + 8) 172 78 [(2, 311), (9, 0)] [] h2 := by
        rw [e172_31, if_pos (F_a311 w), p.1.2.2.2.1, if_pos rfl, e172_39, if_pos (F_a311 w), if_pos (W_a311 w), p.2.2.2.1, show w32 (op + 1) = op + 1 by unfold w32; omega, e172_49, if_pos (F_a311 wA), Cl_eq _ a1, if_pos (F_a311 w1), Cl_eq _ a2, if_pos (F_a311 f2.1)]
      rw [if_neg q8, e49]
      rcases r2 with ⟨e', pc, e0, g1, g2, g3⟩ | ⟨L', kn', pl', m', p3, b1, b2, b3, b4, b5, c⟩
      · refine ⟨h2, ?_, f2, Or.inl ⟨e', pc, e0, g1, g2, g3⟩⟩
        rw [g1, if_neg e0, e172_78, if_pos (F_a311 f2.1), g1, if_neg e0]
      · have tb' := (tkn_c tp n pl').1
        have lt' := lvt tb'
        have w3 := p3.1.1.1
        have r41 := rk_147t p3.1 (t := -7) (by decide) (e + 7)
        rw [show svt (-7) = 41 from rfl] at r41
        rw [p3.1.2.2.2.1, if_pos rfl, e172_64, if_pos (F_a311 w3), Cl_eq _ r41]
        by_cases q7 : tkn tp n pl' = -7
        · have hpn' := tk_lt (tp := tp) (show ¬ tkn tp n pl' = -1 by omega)
          have ag' := adv_gt (tp := tp) hpn'
          rcases c with ⟨c1, c2⟩ | ⟨-, c2, -⟩
          · obtain ⟨m2, rfl⟩ : ∃ m2, m' = m2 + 1 := ⟨m' - 1, by omega⟩
            have pB := PE_34 p3 op
            have wB := pB.1.1.1
            obtain ⟨h4, a4, p4⟩ := PE_adv pB (e + 2)
            refine ⟨h4, ?_, p4.2.1, Or.inr ⟨L', kn', adv tp n pl', m2, p4, ⟨by omega, ag'.2⟩, by omega, b3, b4, b5, Or.inl ⟨?_, ?_⟩⟩⟩
            · rw [decide_eq_true q7, if_neg (by decide), e172_78, if_pos (F_a311 w3), p3.1.2.2.2.1, if_pos rfl, e172_86, if_pos (F_a311 w3), if_pos (W_a311 w3), p3.2.2.2.1, show w32 (op + 1 - 1) = op by unfold w32; omega, e172_96, if_pos (F_a311 wB), Cl_eq _ a4]
            · rw [c1, clL_ns (Or.inl (by omega)), if_pos ⟨q7, by omega⟩, rls_s (W := (-6) :: W) (tF T0 k L') (show tlev (-6) < 1 by decide), show op + 1 - 1 = op by omega]
              rfl
            · have := lvt (tkn_c tp n (adv tp n pl')).1
              omega
          · omega
        · have wf := flt_w w3 1 pl'
          refine ⟨flt h2 1 pl', ?_, FrE_flt f2 1 pl', Or.inl ⟨1, pl', by decide, flt_30 _ _ _, flt_31 _ _ _, ?_⟩⟩
          · rw [decide_eq_false q7, if_pos bI_f, if_pos (F_a311 w3), Cl_eq _ (rk_145p p3.1 1 (e + 7)), e172_78, if_pos (F_a311 wf), flt_30, if_neg (by decide)]
          · rcases c with ⟨c1, c2⟩ | ⟨-, -, c3⟩
            · obtain ⟨m2, rfl⟩ : ∃ m2, m' = m2 + 1 := ⟨m' - 1, by omega⟩
              rw [c1, clL_ns (by omega), if_neg (fun u => q7 u.1), if_neg (by omega)]
            · exact c3
  · rw [decide_eq_false q6, if_pos bI_f, e172_101, if_pos (F_a311 w)]
    have ls := p.1.2.2.1
    have s2 := so_2 ls
    have done : ∀ {h' : Hp} {t x : Int}, t = tkn tp n pl → x = tnm tp n pl → (kn < 64 ∧ PE h0 c0 h' tp n (adv tp n pl) (L ++ [(t, x)]) (kn + 1) op) → (tkn tp n pl = -4 ∧ nck tp n pl 0 9999 = 0) ∨ tkn tp n pl ≤ -32 → RS h0 c0 tp n k tw hl T0 7 W op L ((L.length : Int) - kn) kn pl (clL tp n k tw hl (m1 + 1) true (tF T0 k L) W op kn pl) h' := by
      intro h' t x et ex ⟨q, p'⟩ ok
      have hpn := tk_lt (tp := tp) (show ¬ tkn tp n pl = -1 by omega)
      have ag := adv_gt (tp := tp) hpn
      refine ⟨p'.2.1, Or.inr ⟨_, _, _, m1, p', ag, by omega, ⟨by omega, by omega⟩, ?_, XE_1 L (by omega) x, Or.inl ⟨?_, ?_⟩⟩⟩
      · rw [List.length_append]
        show ((L.length + 1 : Nat) : Int) - (kn + 1) = (L.length : Int) - kn
        omega
      · rw [clL_opd ok, if_pos q, ← et, ← ex, tF_put]
      · have := lvt (tkn_c tp n (adv tp n pl)).1
        omega
    by_cases q4 : tkn tp n pl = -4
    · obtain ⟨v3, v4⟩ := va_2 ls q4
      have e0 : V (e + 8) 172 114 [(2, 311), (9, 0)] [(0, 1)] h = if 9999 < ld h 311 29 then V (e + 8) 172 129 [(2, 311), (0, 1)] [] h else V (e + 8) 172 137 [(2, 311), (0, 1)] [] h := by
        rw [e172_114, if_neg (by decide), if_pos (F_a311 w)]
      rw [if_pos (s2.mpr q4), e0]
      by_cases q9 : 9999 < ld h 311 29
      · have n2 : nck tp n pl 0 9999 = 2 := by
          unfold nck
          rw [if_pos q4, if_pos (Or.inr (by rw [← v3]; unfold imin; split <;> omega))]
        have f2 := FrE_flt p.2.1 2 pl
        have q30 : ¬ ld (flt h 2 pl) 311 30 = 0 := by rw [flt_30]; decide
        refine ⟨flt h 2 pl, ?_, fin 2 _ (by decide) (by rw [clL_num q4 (by rw [n2]; decide), n2])⟩
        rw [if_pos q9, e172_129, if_pos (F_a311 w), Cl_eq _ (rk_145p p.1 2 (e + 7)), tl_f f2.1 q30 (e + 7)]
      · have ev : ld h 311 29 = wN tp n pl := by rw [← v3]; unfold imin; split <;> omega
        have n0 : nck tp n pl 0 9999 = 0 := by unfold nck; rw [if_pos q4, if_neg (by omega)]
        have et : tnm tp n pl = wN tp n pl := by unfold tnm; rw [if_pos q4]
        obtain ⟨t1, t2⟩ := tl_p (x1 := 1) (t := -4) (x := tnm tp n pl) p room rfl rfl (I32_of (by rw [et]; omega)) (Or.inl ⟨rfl, rfl, by rw [ev, et]; rfl⟩) (e + 1)
        rw [if_neg q9, e172_137, if_neg (by decide)]
        by_cases q : kn < 64
        · obtain ⟨h', a', p'⟩ := t1 q
          exact ⟨h', a', done q4.symm rfl ⟨q, p'⟩ (Or.inl ⟨q4, n0⟩)⟩
        · exact ⟨_, t2 q, fin 2 _ (by decide) (by rw [clL_opd (Or.inl ⟨q4, n0⟩), if_neg q])⟩
    · have e0 : V (e + 8) 172 113 [(2, 311), (9, 0)] [] h = if ld h 311 28 = 0 then V (e + 8) 172 148 [(2, 311), (0, 0)] [] h else V (e + 8) 172 157 [(2, 311), (0, 0)] [] h := by
        rw [e172_113, e172_114, if_pos rfl, e172_137, if_pos rfl, if_pos (F_a311 w)]
      have f1 := FrE_flt p.2.1 1 pl
      have q30 : ¬ ld (flt h 1 pl) 311 30 = 0 := by rw [flt_30]; decide
      have e157 : V (e + 8) 172 157 [(2, 311), (0, 0)] [] h = some ((9, 0), flt h 1 pl) := by
        rw [e172_157, if_pos (F_a311 w), Cl_eq _ (rk_145p p.1 1 (e + 7)), tl_f f1.1 q30 (e + 7)]
      rw [if_neg (fun u => q4 (s2.mp u)), e0]
      by_cases q0 : ld h 311 28 = 0
      · have hw : tkn tp n pl ≤ -18 ∧ ld h 311 29 = rwi (-1 - tkn tp n pl) := by
          unfold LSx at ls
          rcases ls with u | u | u | u | u | u <;> first | exact ⟨u.1.2, u.2.2⟩ | (exfalso; omega)
        obtain ⟨-, -, -, l4⟩ := lt.2.2.2.2.2.2.2.2.1 hw.1
        rw [if_pos q0, e172_148, if_pos (F_a311 w), hw.2]
        by_cases q32 : tkn tp n pl ≤ -32
        · have l5 := lt.2.2.2.2.2.2.2.2.2.1 q32
          have et : tnm tp n pl = 0 := by unfold tnm; rw [if_neg q4]
          obtain ⟨t1, t2⟩ := tl_p (x1 := 0) (s := 1) (v := -32 - tkn tp n pl) (t := tkn tp n pl) (x := tnm tp n pl) p room (by unfold ksort; rw [if_neg (by omega), if_pos (by omega)]) (by unfold kval; rw [if_neg (by omega), if_pos (by omega)]) (I32_of (by rw [et]; decide)) (Or.inr ⟨rfl, rfl, by rw [hw.2, l5]; unfold w32; omega⟩) (e + 1)
          rw [if_neg (by omega)]
          by_cases q : kn < 64
          · obtain ⟨h', a', p'⟩ := t1 q
            exact ⟨h', a', done rfl rfl ⟨q, p'⟩ (Or.inr q32)⟩
          · exact ⟨_, t2 q, fin 2 _ (by decide) (by rw [clL_opd (Or.inr q32), if_neg q])⟩
        · rw [if_pos (by omega), e157]
          exact ⟨_, rfl, fin 1 _ (by decide) (clL_1 q6 q4 (by omega) (pre.2 (by decide)) m1)⟩
      · have hw : -18 < tkn tp n pl := by
          unfold LSx at ls
          omega
        rw [if_neg q0, e157]
        exact ⟨_, rfl, fin 1 _ (by decide) (clL_1 q6 q4 (by omega) (pre.2 (by decide)) m1)⟩
theorem SS_169 {pl : Int} (sub : ∀ pl', pl ≤ pl' → SS h0 c0 tp n k tw hl T0 170 5 3 pl') (neg : ∀ pl', pl < pl' → SS h0 c0 tp n k tw hl T0 169 3 4 pl') : SS h0 c0 tp n k tw hl T0 169 3 4 pl := by
  intro h L kn op W m d p room hop pre hm hd
  obtain ⟨hc0, hr, h64⟩ := id room
  have w := p.1.1.1
  obtain ⟨e, rfl⟩ : ∃ e, d = e + 8 := ⟨d - 8, by unfold need at hd; omega⟩
  have tb := (tkn_c tp n pl).1
  have lt := lvt tb
  have ple := PP_le p.1
  have hW : lev W ≤ 3 := by have := pre.1 (by decide); omega
  obtain ⟨m1, rfl⟩ : ∃ m1, m = m1 + 1 := ⟨m - 1, by omega⟩
  have r13 := rk_146t p.1 (x := 13) (t := -20) (by decide) (e + 7)
  rw [ce_169, e169_0, if_pos (F_a311 w), Cl_eq _ r13]
  by_cases q : tkn tp n pl = -20
  · have hpn := tk_lt (tp := tp) (show ¬ tkn tp n pl = -1 by omega)
    have ag := adv_gt (tp := tp) hpn
    have eZ := clL_not (tp := tp) (n := n) (k := k) (tw := tw) (hl := hl) (T := tF T0 k L) (W := W) (op := op) (kn := kn) q (by omega) m1
    rw [decide_eq_true q, if_neg (by decide), if_pos (F_a311 w)]
    obtain ⟨k1, k2⟩ := PE_166 p ⟨by omega, h64⟩ (e + 6)
    by_cases q2 : kn < 64
    · obtain ⟨a1, p1⟩ := k1 q2
      have w1 := p1.1.1.1
      obtain ⟨h2, a2, p2⟩ := PE_148 p1 (e + 1)
      have w2 := p2.1.1.1
      rw [if_pos q2] at eZ
      obtain ⟨h3, a3, f3, r3⟩ := neg (adv tp n pl) ag.1 h2 L (kn + 1) op ((-20) :: W) m1 (e + 7) p2 ⟨hc0, by omega, by omega⟩ hop ⟨fun _ => Or.inr ⟨rfl, by show tlev (-20) = 3; decide⟩, fun u => absurd u (by decide)⟩ (by omega) (by unfold need at hd ⊢; omega)
      rw [← eZ] at r3
      rw [Cl_eq _ a1, e169_13, if_pos (F_a311 w1), Cl_eq _ a2, if_pos (F_a311 w2), Cl_eq _ a3, if_pos (F_a311 f3.1)]
      rcases r3 with ⟨x, pc, e0, g1, g2, g3⟩ | ⟨L', kn', pl', m', p3, b1, b2, b3, b4, b5, c⟩
      · have q30 : ¬ ld h3 311 30 = 0 := by rw [g1]; exact e0
        refine ⟨h3, ?_, f3, Or.inl ⟨x, pc, e0, g1, g2, g3⟩⟩
        rw [Cl_eq _ (rk_165f f3.1 q30 _ _ (e + 7)), e169_29]
      · have lt' := lvt (tkn_c tp n pl').1
        obtain ⟨h4, a4, p4⟩ := PE_165 p3 ⟨hc0, by omega⟩ (ks2 (t := -20) (by decide)) (v := 260) (x := 0) rfl (I32_of (by decide)) (e + 6)
        refine ⟨h4, by rw [Cl_eq _ a4, e169_29], p4.2.1, Or.inr ⟨_, _, _, m', p4, ⟨by omega, b1.2⟩, b2, ⟨by omega, b3.2⟩, ?_, XE_n b5 0, ?_⟩⟩
        · rw [List.length_append]
          show ((L'.length + 1 : Nat) : Int) - kn' = (L.length : Int) - kn
          omega
        · rcases c with ⟨c1, c2⟩ | ⟨-, c2, c3⟩
          · have rel := clL_rel (tp := tp) (n := n) (pl := pl') (k := k) (tw := tw) (hl := hl) (t := -20) (T := tF T0 k L') (W := W) (op := op) (kn := kn') (by
              rw [show tlev (-20) = 3 by decide]
              unfold rth
              split
              · omega
              split
              · omega
              · omega) (by decide) m'
            rw [tF_put] at rel
            exact Or.inl ⟨c1.trans rel, c2⟩
          · exact Or.inr ⟨by decide, c2, c3⟩
    · have f2 := FrE_flt p.2.1 2 pl
      have q30 : ¬ ld (flt h 2 pl) 311 30 = 0 := by rw [flt_30]; decide
      rw [if_neg q2] at eZ
      refine ⟨flt h 2 pl, ?_, f2, Or.inl ⟨2, pl, by decide, flt_30 _ _ _, flt_31 _ _ _, eZ⟩⟩
      rw [Cl_eq _ (k2 q2), e169_13, if_pos (F_a311 f2.1), Cl_eq _ (rk_148f f2.1 q30 (e + 7)), if_pos (F_a311 f2.1), Cl_eq _ (rk_169f f2.1 q30 (e + 4)), if_pos (F_a311 f2.1), Cl_eq _ (rk_165f f2.1 q30 _ _ (e + 7)), e169_29]
  · rw [decide_eq_false q, if_pos bI_f, e169_30, if_pos (F_a311 w)]
    obtain ⟨h1, a1, f1, r1⟩ := sub pl (Int.le_refl _) h L kn op W (m1 + 1) (e + 7) p room hop ⟨fun _ => Or.inl (by omega), fun _ u => absurd u q⟩ hm (by omega)
    rw [Cl_eq _ a1, if_pos (F_a311 f1.1)]
    generalize clL tp n k tw hl (m1 + 1) true (tF T0 k L) W op kn pl = Z at *
    rcases r1 with ⟨x, pc, e0, g1, g2, g3⟩ | ⟨L1, kn1, pl1, m2, p1, b1, b2, b3, b4, b5, c⟩
    · refine ⟨h1, ?_, f1, Or.inl ⟨x, pc, e0, g1, g2, g3⟩⟩
      rw [g1, if_neg e0, e169_86]
    · rcases c with ⟨c1, c2⟩ | ⟨c1, -⟩
      · have w1 := p1.1.1.1
        have tb1 := (tkn_c tp n pl1).1
        have lt1 := lvt tb1
        have ls := p1.1.2.2.1
        rw [p1.1.2.2.2.1, if_pos rfl, e169_41, if_pos (F_a311 w1)]
        by_cases q4 : tlev (tkn tp n pl1) = 4
        · have h8 : -13 ≤ tkn tp n pl1 ∧ tkn tp n pl1 ≤ -8 := lt1.1.mp q4
          obtain ⟨s3, v3⟩ := va_3 ls (by omega)
          have hv : ld h1 311 29 = kval (tkn tp n pl1) 0 := by rw [v3]; exact lt1.2.2.2.2.2.2.2.1 (by omega)
          have e87 : (if ld h1 311 28 = 3 then (if okF h1 311 31 = true then (if ld h1 311 29 = (60 : Int) then V (e + 8) 169 87 [(2, 311), (9, 0)] [] h1 else V (e + 8) 169 58 [(2, 311), (9, 0)] [] h1) else none) else V (e + 8) 169 86 [(9, 0), (9, 0)] [] h1) = V (e + 8) 169 87 [(2, 311), (9, 0)] [] h1 := by
            rw [if_pos s3, if_pos (F_a311 w1), v3]
            by_cases y1 : svt (tkn tp n pl1) = 60
            · rw [if_pos y1]
            · rw [if_neg y1, e169_58, if_pos (F_a311 w1), v3]
              by_cases y2 : svt (tkn tp n pl1) = 62
              · rw [if_pos y2]
              · rw [if_neg y2, if_pos (F_a311 w1)]
                by_cases y3 : svt (tkn tp n pl1) = 61
                · rw [if_pos y3]
                · have h6 : tkn tp n pl1 = -8 ∨ tkn tp n pl1 = -9 ∨ tkn tp n pl1 = -10 ∨ tkn tp n pl1 = -11 ∨ tkn tp n pl1 = -12 ∨ tkn tp n pl1 = -13 := by omega
                  have y4 : ¬ svt (tkn tp n pl1) < 256 := by
                    rcases h6 with u | u | u | u | u | u <;> rw [u] at y1 y2 y3 ⊢ <;> revert y1 y2 y3 <;> decide
                  rw [if_neg y3, e169_76, if_pos (F_a311 w1), v3, if_neg y4]
          rw [e87, e169_87, if_pos (F_a311 w1), if_pos (F_a311 w1)]
          have hpn := tk_lt (tp := tp) (show ¬ tkn tp n pl1 = -1 by omega)
          have ag := adv_gt (tp := tp) hpn
          obtain ⟨m3, rfl⟩ : ∃ m3, m2 = m3 + 1 := ⟨m2 - 1, by omega⟩
          have eZ := c1.trans (clL_op rfl (by omega) (by rw [if_pos q4]; omega) (by omega) m3)
          obtain ⟨k1, k2⟩ := PE_166 p1 ⟨by omega, b3.2⟩ (e + 6)
          by_cases q2 : kn1 < 64
          · obtain ⟨a2, p2⟩ := k1 q2
            have w2 := p2.1.1.1
            obtain ⟨h3, a3, p3⟩ := PE_148 p2 (e + 1)
            have w3 := p3.1.1.1
            rw [if_pos q2] at eZ
            obtain ⟨h4, a4, f4, r4⟩ := sub (adv tp n pl1) (by omega) h3 L1 (kn1 + 1) op (tkn tp n pl1 :: W) m3 (e + 7) p3 ⟨hc0, by omega, by omega⟩ hop ⟨fun _ => Or.inl (by show tlev (tkn tp n pl1) < 5; omega), fun _ _ => by show 3 < tlev (tkn tp n pl1); omega⟩ (by omega) (by unfold need at hd ⊢; omega)
            rw [← eZ] at r4
            rw [Cl_eq _ a2, e169_96, if_pos (F_a311 w2), Cl_eq _ a3, if_pos (F_a311 w3), Cl_eq _ a4, if_pos (F_a311 f4.1), hv]
            rcases r4 with ⟨x, pc, e0, g1, g2, g3⟩ | ⟨L', kn', pl', m', p5, b1', b2', b3', b4', b5', c'⟩
            · have q30 : ¬ ld h4 311 30 = 0 := by rw [g1]; exact e0
              refine ⟨h4, ?_, f4, Or.inl ⟨x, pc, e0, g1, g2, g3⟩⟩
              rw [Cl_eq _ (rk_165f f4.1 q30 _ _ (e + 7)), e169_110]
            · rcases c' with ⟨c1', c2'⟩ | ⟨c1', -⟩
              · have lt' := lvt (tkn_c tp n pl').1
                obtain ⟨h6, a6, p6⟩ := PE_165 p5 ⟨hc0, by omega⟩ (ks2 (t := tkn tp n pl1) (by omega)) (x := 0) rfl (I32_of (by decide)) (e + 6)
                refine ⟨h6, by rw [Cl_eq _ a6, e169_110], p6.2.1, Or.inr ⟨_, _, _, m', p6, ⟨by omega, b1'.2⟩, b2', ⟨by omega, b3'.2⟩, ?_, XE_2 b5 b5' (by omega) 0, ?_⟩⟩
                · rw [List.length_append]
                  show ((L'.length + 1 : Nat) : Int) - kn' = (L.length : Int) - kn
                  omega
                · by_cases q5 : tlev (tkn tp n pl') = 4
                  · obtain ⟨m4, rfl⟩ : ∃ m4, m' = m4 + 1 := ⟨m' - 1, by omega⟩
                    exact Or.inr ⟨by decide, q5, c1'.trans (clL_4 (W := tkn tp n pl1 :: W) q5 (by omega) q4 m4)⟩
                  · have rel := clL_rel (tp := tp) (n := n) (pl := pl') (k := k) (tw := tw) (hl := hl) (t := tkn tp n pl1) (T := tF T0 k L') (W := W) (op := op) (kn := kn') (by
                      unfold rth
                      split
                      · omega
                      · first | omega | (split <;> omega)) (by omega) m'
                    rw [tF_put] at rel
                    exact Or.inl ⟨c1'.trans rel, by omega⟩
              · omega
          · have f2 := FrE_flt p1.2.1 2 pl1
            have q30 : ¬ ld (flt h1 2 pl1) 311 30 = 0 := by rw [flt_30]; decide
            rw [if_neg q2] at eZ
            refine ⟨flt h1 2 pl1, ?_, f2, Or.inl ⟨2, pl1, by decide, flt_30 _ _ _, flt_31 _ _ _, eZ⟩⟩
            rw [Cl_eq _ (k2 q2), e169_96, if_pos (F_a311 f2.1), Cl_eq _ (rk_148f f2.1 q30 (e + 7)), if_pos (F_a311 f2.1), Cl_eq _ (rk_170f f2.1 q30 (e + 5)), if_pos (F_a311 f2.1), Cl_eq _ (rk_165f f2.1 q30 _ _ (e + 7)), e169_110]
        · refine ⟨h1, ?_, p1.2.1, Or.inr ⟨L1, kn1, pl1, m2, p1, b1, b2, b3, b4, b5, Or.inl ⟨c1, by omega⟩⟩⟩
          by_cases s3 : ld h1 311 28 = 3
          · have hs : -17 ≤ tkn tp n pl1 ∧ tkn tp n pl1 ≤ -5 := by
              unfold LSx at ls
              rcases ls with u | u | u | u | u | u <;> first | exact u.1 | (exfalso; omega)
            have v3 := (va_3 ls hs).2
            have h7 : tkn tp n pl1 = -5 ∨ tkn tp n pl1 = -6 ∨ tkn tp n pl1 = -7 ∨ tkn tp n pl1 = -14 ∨ tkn tp n pl1 = -15 ∨ tkn tp n pl1 = -16 ∨ tkn tp n pl1 = -17 := by omega
            have y : ¬ svt (tkn tp n pl1) = 60 ∧ ¬ svt (tkn tp n pl1) = 62 ∧ ¬ svt (tkn tp n pl1) = 61 ∧ svt (tkn tp n pl1) < 256 := by
              rcases h7 with u | u | u | u | u | u | u <;> rw [u] <;> decide
            rw [if_pos s3, if_pos (F_a311 w1), v3, if_neg y.1, e169_58, if_pos (F_a311 w1), v3, if_neg y.2.1, if_pos (F_a311 w1), if_neg y.2.2.1, e169_76, if_pos (F_a311 w1), v3, if_pos y.2.2.2, e169_86]
          · rw [if_neg s3, e169_86]
      · omega
/-- a whole E -/
theorem SS_all : ∀ (N : Nat) (pl : Int), n - pl < N → SS h0 c0 tp n k tw hl T0 172 7 1 pl ∧ SS h0 c0 tp n k tw hl T0 171 6 2 pl ∧ SS h0 c0 tp n k tw hl T0 170 5 3 pl ∧ SS h0 c0 tp n k tw hl T0 169 3 4 pl ∧ SS h0 c0 tp n k tw hl T0 168 2 5 pl ∧ SS h0 c0 tp n k tw hl T0 167 1 6 pl := by
  intro N
  induction N with
  | zero =>
    intro pl hN
    refine ⟨?_, ?_, ?_, ?_, ?_, ?_⟩ <;> (intro h L kn op W m d p; have := PP_le p.1; omega)
  | succ N ih =>
    intro pl hN
    have s7 : ∀ pl', pl ≤ pl' → SS h0 c0 tp n k tw hl T0 172 7 1 pl' := fun pl' u => by
      by_cases y : pl < pl'
      · exact (ih pl' (by omega)).1
      · rw [show pl' = pl by omega]; exact SS_172 (fun z v => (ih z (by omega)).2.2.2.2.2)
    have s6 : ∀ pl', pl ≤ pl' → SS h0 c0 tp n k tw hl T0 171 6 2 pl' := fun pl' u => SS_171 (fun z v => s7 z (by omega))
    have s5 : ∀ pl', pl ≤ pl' → SS h0 c0 tp n k tw hl T0 170 5 3 pl' := fun pl' u => SS_170 (fun z v => s6 z (by omega))
    have s3 : ∀ pl', pl ≤ pl' → SS h0 c0 tp n k tw hl T0 169 3 4 pl' := fun pl' u => by
      by_cases y : pl < pl'
      · exact (ih pl' (by omega)).2.2.2.1
      · rw [show pl' = pl by omega]; exact SS_169 s5 (fun z v => (ih z (by omega)).2.2.2.1)
    have s2 : ∀ pl', pl ≤ pl' → SS h0 c0 tp n k tw hl T0 168 2 5 pl' := fun pl' u => SS_168 (fun z v => s3 z (by omega))
    have s1 : ∀ pl', pl ≤ pl' → SS h0 c0 tp n k tw hl T0 167 1 6 pl' := fun pl' u => SS_167 (fun z v => s2 z (by omega))
    exact ⟨s7 pl (Int.le_refl _), s6 pl (Int.le_refl _), s5 pl (Int.le_refl _), s3 pl (Int.le_refl _), s2 pl (Int.le_refl _), s1 pl (Int.le_refl _)⟩
end EX3
