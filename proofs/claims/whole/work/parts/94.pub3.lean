/-! layer 2: the class's methods: who, images, counts, a text -/
section PD
variable {h h' : Hp} {z : Zt}
theorem knC_z (c : CR h z) : knC h = zKn z := by unfold knC zKn; rw [c.kb, c.sz]
theorem askf_cong {kd ab kd' ab' : Int → Int} : ∀ (n : Nat) (A : Int × Int × Int), (∀ k : Int, 0 ≤ k → k < n → kd k = kd' k ∧ ab k = ab' k) → askf kd ab n A = askf kd' ab' n A
  | 0, _, _ => rfl
  | n + 1, A, e => by
    obtain ⟨e1, e2⟩ := e (n : Int) (by omega) (by omega)
    unfold askf
    rw [e1, e2]
    exact askf_cong n _ (fun k k0 k1 => e k k0 (by omega))
theorem kq_28 (c : CR h z) (d : Nat) : OPc h z (d + 4) 28 [(2, 1)] 0 (zWho z) z := by
  have w := c.w
  have kn := knC_z c
  have szb := c.szb
  have kbb := c.kbb
  have hk : 0 ≤ zKn z ∧ zKn z ≤ 24 := by unfold zKn; split <;> omega
  obtain ⟨h1, a1, w1, s1, f1, e4, e5⟩ := kq_129 w (d + 2) (by rw [kn]; exact hk)
  have ea : askf (fun k => ld h 309 k) (fun k => ld h 310 k) (knC h).toNat (0, 0, 0) = askf z.sk z.sa (zKn z).toNat (0, 0, 0) := by
    rw [kn]
    exact askf_cong _ _ (fun k k0 k1 => ⟨c.sk k k0 (by omega), c.sa k k0 (by omega)⟩)
  rw [ea] at e4 e5
  have c1 : CR h1 z := CR_scr c w1 (fun a j _ _ _ _ e => f1 a j e)
  have fc : FrC h h1 := ⟨s1, fun a j e => f1 a j (by omega)⟩
  refine ⟨h1, ?_, c1, fc⟩
  rw [ce_28, e28_0, if_pos (F_a1 w), P_1_14 w, if_pos (F_a308 w), Cl_eq _ a1, e28_9]
  obtain ⟨b0, b1, b2, b3⟩ := cB c1
  have hT := cTOK c1
  unfold zWho
  refine lpD (h := h1) (N := z.T 1 0) (G := fun k a => V (d + 4) 28 11 [(2, 1), (0, a), (0, k)] [] h1) hT.2.1.1 (fun a => ?_) (fun k a k0 k1 => ?_) 0
  · show V (d + 4) 28 11 [(2, 1), (0, a), (0, z.T 1 0)] [] h1 = _
    rw [e28_11, if_pos (F_a1 w1), if_pos (c3 c1), b1, if_neg (by omega), e28_52]
  · show V (d + 4) 28 11 [(2, 1), (0, a), (0, k)] [] h1 = V (d + 4) 28 11 [(2, 1), (0, _), (0, k + 1)] [] h1
    have a99 := kq_99 c1.ck d k
    rw [c1.T, c1.S] at a99
    have a130 := kq_130 w1 (d + 3) (sFace z.T z.S k)
    rw [e4, e5] at a130
    have wkk : w32 (k + 1) = k + 1 := by have := hT.2.1; unfold w32; omega
    rw [e28_11, if_pos (F_a1 w1), if_pos (c3 c1), b1, if_pos k1, e28_22, if_pos (F_a1 w1), if_pos (F_a1 w1), P_1_5 w1, if_pos (F_a97 w1), Cl_eq _ a99, P_1_14 w1, if_pos (F_a308 w1), Cl_eq _ a130]
    cases qFit (askf z.sk z.sa (zKn z).toNat (0, 0, 0)).2.1 (askf z.sk z.sa (zKn z).toNat (0, 0, 0)).2.2 (sFace z.T z.S k) with
    | false => rw [if_pos bI_f, e28_46, wkk, if_neg (by decide)]
    | true => rw [if_neg (by decide), e28_40, e28_46, wkk, if_pos rfl]
theorem kq_32 (c : CR h z) (x : Int) (d : Nat) : C (d + 4) 32 [(2, 1), (0, x)] h = some ((0, zCount x z), h) := by
  have w := c.w
  have hb := c.hb
  obtain ⟨b0, b1, b2, b3⟩ := cB c
  unfold zCount
  rw [ce_32, e32_0]
  by_cases q0 : x = 0
  · rw [if_pos q0, if_pos q0, e32_64, if_pos (F_a1 w), if_pos (c3 c), b0]
  rw [if_neg q0, if_neg q0]
  by_cases q1 : x = 1
  · rw [if_pos q1, if_pos q1, e32_72, if_pos (F_a1 w), if_pos (c3 c), b1]
  rw [if_neg q1, if_neg q1]
  by_cases q2 : x = 2
  · rw [if_pos q2, if_pos q2, e32_80, if_pos (F_a1 w), if_pos (c3 c), b2]
  rw [if_neg q2, if_neg q2]
  by_cases q3 : x = 3
  · rw [if_pos q3, if_pos q3, e32_88, if_pos (F_a1 w), if_pos (c3 c), b3]
  rw [if_neg q3, if_neg q3]
  by_cases q4 : x = 4
  · rw [if_pos q4, if_pos q4, e32_96, if_pos (F_a1 w), if_pos (c3 c), Cl_eq _ (kq_79 w hb (d + 3)), c.T]
  rw [if_neg q4, if_neg q4]
  by_cases q5 : x = 5
  · rw [if_pos q5, if_pos q5, e32_104, if_pos (F_a1 w), P_1_5 w, if_pos (F_a97 w), cday c]
  rw [if_neg q5, if_neg q5]
  by_cases q6 : x = 6
  · rw [if_pos q6, if_pos q6, e32_112, if_pos (F_a1 w), P_1_14 w, if_pos (F_a308 w), c.sz]
  rw [if_neg q6, if_neg q6]
  by_cases q7 : x = 7
  · rw [if_pos q7, if_pos q7, e32_120, if_pos (F_a1 w), P_1_14 w, if_pos (F_a308 w), Cl_eq _ (kq_128 w (d + 3)), knC_z c]
  rw [if_neg q7, if_neg q7]
  by_cases q8 : x = 8
  · rw [if_pos q8, if_pos q8, e32_128, if_pos (F_a1 w), P_1_9 w, if_pos (F_a121 w), c.pz]
  rw [if_neg q8, if_neg q8]
  by_cases q9 : x = 9
  · rw [if_pos q9, if_pos q9, e32_136, if_pos (F_a1 w), P_1_5 w, if_pos (F_a97 w), show ld h 97 2 = z.S 1 0 from cS c 1 0]
  rw [if_neg q9, if_neg q9]
  by_cases q10 : x = 10
  · rw [if_pos q10, if_pos q10, e32_144, if_pos (F_a1 w), P_1_5 w, if_pos (F_a97 w), Cl_eq _ (kq_107 c.ck (d + 3)), c.T, c.S]
  rw [if_neg q10, if_neg q10]
  by_cases q11 : x = 11
  · rw [if_pos q11, if_pos q11, e32_152, if_pos (F_a1 w), P_1_5 w, if_pos (F_a97 w), Cl_eq _ (kq_106 c.ck d), c.T, c.S]
  rw [if_neg q11, if_neg q11, e32_160]
/-- the image changes, all else stays -/
theorem CR_im (c : CR h z) (w' : WF h') (fr : ∀ a j, scr a = false → ¬ (113 ≤ a ∧ a ≤ 119) → ¬ (a = 1 ∧ j = 8) → ld h' a j = ld h a j) (g8 : ld h' 1 8 = 1) (ck : CK h' 113 (ld h 1 3)) (v : sV h' 113 (ld h 1 3) = z.S) : CR h' (z.setIm (some z.S)) := by
  have fq : ∀ a j, (a ≤ 36 ∨ a = 121 ∨ 283 ≤ a) → ¬ (a = 1 ∧ j = 8) → ld h' a j = ld h a j := fun a j e e2 => fr a j (scr_if (by omega)) (by omega) e2
  have e3 : ld h' 1 3 = ld h 1 3 := fq 1 3 (by decide) (by decide)
  have e121 := fq 121 1 (by decide) (by decide)
  have e122 := fq 121 2 (by decide) (by decide)
  have ep : ∀ i, psl h' i = psl h i := fun i => by unfold psl; rw [e121, e122]
  have eb : EqB h h' (ld h 1 3) := fun i h0 h1 a1 a2 a3 k => fr _ _ (bk_scr c.hb h0 h1 a1 a2 a3) (by rcases bk_b c.hb with q | q <;> rw [q] <;> omega) (by rcases bk_b c.hb with q | q <;> rw [q] <;> omega)
  have eS : ∀ t, t ∈ STL → t ≠ 113 → EqS h h' t := fun t ht hn i h0 h1 k => by
    have r := stl_r ht
    exact fr _ _ (scr_if (by omega)) (by omega) (by omega)
  refine ⟨w', by rw [e3]; exact c.hb, by rw [fq 1 4 (by decide) (by decide)]; exact c.hd, by rw [e3, fq 1 4 (by decide) (by decide)]; exact c.ne, (funext fun j => fq 2 j (Or.inl (by decide)) (by omega)).trans c.tp, (fq 1 1 (by decide) (by decide)).trans c.tn, c.tnb, by have := c.nb; unfold NB at this ⊢; rw [fq 4 5 (by decide) (by decide)]; exact this, (fq 3 7 (by decide) (by decide)).trans c.fk, (fq 3 8 (by decide) (by decide)).trans c.fp, by rw [e3, tC_eq eb]; exact c.T, by rw [e3]; exact CK_eq c.ck w' eb (eS 97 c.ck.2.1 (by decide)), by rw [e3]; exact (sV_eq eb (eS 97 c.ck.2.1 (by decide))).trans c.S, c.ok, c.dok, (fun e => by cases e), fun I e => ?_, fun w t w0 w1 t0 t1 => (fq _ _ (by omega) (by omega)).trans (c.dg w t w0 w1 t0 t1), by rw [e121]; exact c.pf, e122.trans c.pz, c.pl, fun i P e => ?_, fun k k0 k1 => (fq 309 k (by omega) (by omega)).trans (c.sk k k0 k1), fun k k0 k1 => (fq 310 k (by omega) (by omega)).trans (c.sa k k0 k1), (fq 308 2 (by decide) (by decide)).trans c.sz, c.szb, (fq 308 3 (by decide) (by decide)).trans c.kb, c.kbb⟩
  · have e : some z.S = some I := e
    rw [← Option.some.inj e, e3]
    exact ⟨g8, ck, v, c.ok, c.dok⟩
  · obtain ⟨p1, p2, p3⟩ := c.past i P e
    have hi : i < z.past.length := by
      rcases List.getElem?_eq_some_iff.mp e with ⟨q, -⟩; exact q
    have hl := c.pl
    have hz := c.pz
    have rb := rix_b c.pf (i := ld h 121 2 - 1 - (i : Int)) (by omega)
    have es := eS _ p1.2.1 (by unfold psl; omega)
    rw [e3, ep]
    exact ⟨CK_eq p1 w' eb es, (sV_eq eb es).trans p2, p3⟩
theorem kq_30 (c : CR h z) (d : Nat) : OPc h z (d + 2) 30 [(2, 1)] 0 (zKeep z).1 (zKeep z).2 := by
  have w := c.w
  obtain ⟨h1, a1, m⟩ := kq_86 (s := 113) c.ck (by rw [c.S]; exact c.ok) (by decide) (by decide) (d + 1)
  have w1 := m.1
  have n18 : npt 1 8 := npt_J (by decide +kernel)
  have w2 : WF (st h1 1 8 1) := wf_st w1 n18
  have fr : ∀ a j, scr a = false → ¬ (113 ≤ a ∧ a ≤ 119) → ¬ (a = 1 ∧ j = 8) → ld (st h1 1 8 1) a j = ld h a j := fun a j e1 e2 e3 => (ld_st_ne (by omega)).trans (m.2.2.1 a j e1 (by omega))
  have eb : EqB h1 (st h1 1 8 1) (ld h 1 3) := fun i h0 h1 _ _ _ k => ld_st_ne (Or.inl (by rcases bk_b c.hb with q | q <;> rw [q] <;> omega))
  have es : EqS h1 (st h1 1 8 1) 113 := fun i h0 h1 k => ld_st_ne (Or.inl (by omega))
  have c1 : CK h1 113 (ld h 1 3) := by
    have eb := Mx_B (lo := 283) (hi := 286) (Mx_of m) (by decide) (by decide) c.hb
    obtain ⟨-, c2, c3, c4, c5, c6, c7, c8⟩ := id c.ck
    exact ⟨w1, by decide, c3, m.2.2.2.1, by rw [tC_eq eb]; exact c5, CB_eq eb c6, by rw [tC_eq eb]; exact c7, by rw [m.2.2.2.2]; exact c8⟩
  refine ⟨st h1 1 8 1, ?_, CR_im c w2 fr (ld_st_eq _ _ _ _) (CK_eq c1 w2 eb es) ((sV_eq eb es).trans (m.2.2.2.2.trans c.S)), m.2.1, fun a j e => fr a j (scr_311 e) (by omega) (by omega)⟩
  rw [ce_30, e30_0, if_pos (F_a1 w), if_pos (F_a1 w), P_1_7 w, P_1_5 w, if_pos (F_a113 w), Cl_eq _ a1, e30_11, if_pos (W_a1 w1), if_pos (by decide), if_pos (F_a1 w2), P_1_5 w2, if_pos (F_a97 w2), fr 97 1 (scr_if (by omega)) (by omega) (by decide), cday c]
  rfl
theorem kq_31 (c : CR h z) (d : Nat) : OPc h z (d + 2) 31 [(2, 1)] 0 (zBack z).1 (zBack z).2 := by
  have w := c.w
  unfold zBack
  cases hi : z.im with
  | none =>
    refine OPc_rf c ?_
    rw [ce_31, e31_0, if_pos (F_a1 w), c.im0 hi, if_pos rfl]
  | some I =>
    obtain ⟨i1, i2, i3, i4, i5⟩ := c.im1 I hi
    obtain ⟨h1, a1, m⟩ := kq_86 (s := 97) i2 (by rw [i3]; exact i4) (by decide) (by decide) (d + 1)
    rw [i3] at m
    obtain ⟨c1, f1⟩ := CR_Md c m i4 i5
    obtain ⟨h2, a2, c2, f2, g2⟩ := CR_clear c1 (d + 1)
    have w1 := c1.w
    have w2 := c2.w
    refine ⟨h2, ?_, c2, FrC_tr f1 f2⟩
    rw [ce_31, e31_0, if_pos (F_a1 w), i1, if_neg (by decide), e31_9, if_pos (F_a1 w), if_pos (F_a1 w), P_1_7 w, P_1_5 w, if_pos (F_a97 w), Cl_eq _ a1, e31_20, if_pos (F_a1 w1), P_1_9 w1, if_pos (F_a121 w1), Cl_eq _ a2, if_pos (F_a1 w2), P_1_5 w2, if_pos (F_a97 w2), cday c2]
end PD
