/-! layer 2: the class's plain methods -/
def OPc (h : Hp) (z : Zt) (D m : Nat) (as : List (Nat × Int)) (t : Nat) (r : Int) (z' : Zt) : Prop := ∃ h', C D m as h = some ((t, r), h') ∧ CR h' z' ∧ FrC h h'
theorem OPc_rf {h : Hp} {z : Zt} {D m : Nat} {as : List (Nat × Int)} {t : Nat} {r : Int} (c : CR h z) (e : C D m as h = some ((t, r), h)) : OPc h z D m as t r z := ⟨h, e, c, FrC_rf⟩
section PM
variable {h h' : Hp} {z : Zt}
theorem CR_small (c : CR h z) (w' : WF h') (fr : ∀ a j, 37 ≤ a → a ≤ 282 → ld h' a j = ld h a j) (f1 : ∀ j, j ≠ 1 → ld h' 1 j = ld h 1 j) {tp' : Int → Int} {tn' fk' fp' : Int} {dg' : Int → Int → Int} {sk' sa' : Int → Int} {sz' kb' : Int} (g1 : tpC h' = tp') (g2 : ld h' 1 1 = tn') (g3 : 0 ≤ tn' ∧ tn' ≤ 700) (g4 : NB h') (g5 : ld h' 3 7 = fk') (g6 : ld h' 3 8 = fp') (g7 : ∀ w t : Int, 0 ≤ w → w < 3 → 0 ≤ t → t < 100 → ld h' (288 + w) t = dg' w t) (g8 : ∀ k : Int, 0 ≤ k → k < 24 → ld h' 309 k = sk' k) (g9 : ∀ k : Int, 0 ≤ k → k < 24 → ld h' 310 k = sa' k) (g10 : ld h' 308 2 = sz') (g11 : 0 ≤ sz' ∧ sz' ≤ 24) (g12 : ld h' 308 3 = kb') (g13 : -1 ≤ kb' ∧ kb' ≤ sz') : CR h' (tp', tn', fk', fp', z.T, z.S, z.im, dg', z.past, sk', sa', sz', kb') := by
  have e3 := f1 3 (by decide)
  have e121 := fr 121 1 (by decide) (by decide)
  have e122 := fr 121 2 (by decide) (by decide)
  have ep : ∀ i, psl h' i = psl h i := fun i => by unfold psl; rw [e121, e122]
  have eb : EqB h h' (ld h 1 3) := fun i h0 h1 _ _ _ k => fr _ _ (by rcases bk_b c.hb with q | q <;> rw [q] <;> omega) (by rcases bk_b c.hb with q | q <;> rw [q] <;> omega)
  have eS : ∀ t, t ∈ STL → EqS h h' t := fun t ht i h0 h1 k => by
    have r := stl_r ht
    exact fr _ _ (by omega) (by omega)
  refine ⟨w', by rw [e3]; exact c.hb, by rw [f1 4 (by decide)]; exact c.hd, by rw [e3, f1 4 (by decide)]; exact c.ne, g1, g2, g3, g4, g5, g6, by rw [e3, tC_eq eb]; exact c.T, by rw [e3]; exact CK_eq c.ck w' eb (eS 97 c.ck.2.1), by rw [e3]; exact (sV_eq eb (eS 97 c.ck.2.1)).trans c.S, c.ok, c.dok, fun e => (f1 8 (by decide)).trans (c.im0 e), fun I e => ?_, g7, by rw [e121]; exact c.pf, e122.trans c.pz, c.pl, fun i P e => ?_, g8, g9, g10, g11, g12, g13⟩
  · obtain ⟨i1, i2, i3, i4⟩ := c.im1 I e
    have es := eS 113 i2.2.1
    rw [e3]
    exact ⟨(f1 8 (by decide)).trans i1, CK_eq i2 w' eb es, (sV_eq eb es).trans i3, i4⟩
  · obtain ⟨p1, p2, p3⟩ := c.past i P e
    have es := eS _ p1.2.1
    rw [e3, ep]
    exact ⟨CK_eq p1 w' eb es, (sV_eq eb es).trans p2, p3⟩
theorem CR_tape (c : CR h z) (w' : WF h') (fr : ∀ a j, a ≠ 2 → ¬ (a = 1 ∧ j = 1) → ld h' a j = ld h a j) {tp' : Int → Int} {tn' : Int} (g1 : tpC h' = tp') (g2 : ld h' 1 1 = tn') (g3 : 0 ≤ tn' ∧ tn' ≤ 700) : CR h' (z.setTape tp' tn') :=
  CR_small c w' (fun a j _ _ => fr a j (by omega) (by omega)) (fun j e => fr 1 j (by decide) (by omega)) g1 g2 g3 (by have := c.nb; unfold NB at this ⊢; rw [fr 4 5 (by decide) (by decide)]; exact this) ((fr 3 7 (by decide) (by decide)).trans c.fk) ((fr 3 8 (by decide) (by decide)).trans c.fp) (fun w t w0 w1 t0 t1 => (fr _ _ (by omega) (by omega)).trans (c.dg w t w0 w1 t0 t1)) (fun k k0 k1 => (fr _ _ (by decide) (by omega)).trans (c.sk k k0 k1)) (fun k k0 k1 => (fr _ _ (by decide) (by omega)).trans (c.sa k k0 k1)) ((fr _ _ (by decide) (by decide)).trans c.sz) c.szb ((fr _ _ (by decide) (by decide)).trans c.kb) c.kbb
theorem CR_see (c : CR h z) (w' : WF h') (fr : ∀ a j, a ≠ 309 → a ≠ 310 → ¬ (a = 308 ∧ (j = 2 ∨ j = 3)) → ld h' a j = ld h a j) {sk' sa' : Int → Int} {sz' kb' : Int} (g8 : ∀ k : Int, 0 ≤ k → k < 24 → ld h' 309 k = sk' k) (g9 : ∀ k : Int, 0 ≤ k → k < 24 → ld h' 310 k = sa' k) (g10 : ld h' 308 2 = sz') (g11 : 0 ≤ sz' ∧ sz' ≤ 24) (g12 : ld h' 308 3 = kb') (g13 : -1 ≤ kb' ∧ kb' ≤ sz') : CR h' ((z.setSee sk' sa' sz').setKb kb') :=
  CR_small c w' (fun a j _ _ => fr a j (by omega) (by omega) (by omega)) (fun j _ => fr 1 j (by decide) (by decide) (by omega)) ((funext fun j => fr 2 j (by decide) (by decide) (by omega)).trans c.tp) ((fr 1 1 (by decide) (by decide) (by decide)).trans c.tn) c.tnb (by have := c.nb; unfold NB at this ⊢; rw [fr 4 5 (by decide) (by decide) (by decide)]; exact this) ((fr 3 7 (by decide) (by decide) (by decide)).trans c.fk) ((fr 3 8 (by decide) (by decide) (by decide)).trans c.fp) (fun w t w0 w1 t0 t1 => (fr _ _ (by omega) (by omega) (by omega)).trans (c.dg w t w0 w1 t0 t1)) g8 g9 g10 g11 g12 g13
theorem CR_dgw (c : CR h z) (w' : WF h') (fr : ∀ a j, ¬ (288 ≤ a ∧ a ≤ 290) → ld h' a j = ld h a j) {dg' : Int → Int → Int} (g7 : ∀ w t : Int, 0 ≤ w → w < 3 → 0 ≤ t → t < 100 → ld h' (288 + w) t = dg' w t) : CR h' (z.setDg dg') :=
  CR_small c w' (fun a j _ _ => fr a j (by omega)) (fun j _ => fr 1 j (by decide)) ((funext fun j => fr 2 j (by decide)).trans c.tp) ((fr 1 1 (by decide)).trans c.tn) c.tnb (by have := c.nb; unfold NB at this ⊢; rw [fr 4 5 (by decide)]; exact this) ((fr 3 7 (by decide)).trans c.fk) ((fr 3 8 (by decide)).trans c.fp) g7 (fun k k0 k1 => (fr _ _ (by decide)).trans (c.sk k k0 k1)) (fun k k0 k1 => (fr _ _ (by decide)).trans (c.sa k k0 k1)) ((fr _ _ (by decide)).trans c.sz) c.szb ((fr _ _ (by decide)).trans c.kb) c.kbb
/-! the tape -/
def by4 (v s : Int) : Int := and32 (ushr32 v s) 255
def pt4 (v t : Int) (tp : Int → Int) : Int → Int := fun j => if j = t + 3 then by4 v 0 else if j = t + 2 then by4 v 8 else if j = t + 1 then by4 v 16 else if j = t then by4 v 24 else tp j
theorem and255 (x : Int) : 0 ≤ and32 x 255 ∧ and32 x 255 < 256 := by
  unfold and32
  have e : (Int32.ofInt x &&& Int32.ofInt 255).toInt = ((Int32.ofInt x).toBitVec &&& 255#32).toInt := rfl
  have h2 : ((Int32.ofInt x).toBitVec &&& 255#32).toNat ≤ 255 := by
    rw [BitVec.toNat_and]; exact Nat.and_le_right
  rw [e, BitVec.toInt_eq_toNat_of_lt (by omega)]
  omega
theorem n2j (j : Int) : npt 2 j := npt_A (by decide +kernel) j
theorem n11 : npt 1 1 := npt_J (by decide +kernel)
theorem kq_3 (w : WF h) (v : Int) (h0 : 0 ≤ ld h 1 1) (h1 : ld h 1 1 + 4 ≤ 700) (d : Nat) : ∃ h', C d 3 [(2, 1), (0, v)] h = some ((9, 0), h') ∧ WF h' ∧ h'.2 = h.2 ∧ ld h' 1 1 = ld h 1 1 + 4 ∧ tpC h' = pt4 v (ld h 1 1) (tpC h) ∧ ∀ a j, a ≠ 2 → ¬ (a = 1 ∧ j = 1) → ld h' a j = ld h a j := by
  have step : ∀ (h : Hp) (x t : Int), WF h → ld h 1 1 = t → 0 ≤ t → t < 700 → 0 ≤ x → x ≤ 24 → V d 3 3 [(2, 1), (0, v), (0, x)] [] h = V d 3 3 [(2, 1), (0, v), (0, x - 8)] [] (st (st h 2 t (by4 v x)) 1 1 (t + 1)) ∧ WF (st (st h 2 t (by4 v x)) 1 1 (t + 1)) := by
    intro h x t w e t0 t1 x0 x1
    have b := and255 (ushr32 v x)
    have e2 : (and32 (ushr32 v x) 255 % 65536) % 65536 = by4 v x := by unfold by4; omega
    have w1 : WF (st h 2 t (by4 v x)) := wf_st w (n2j _)
    have e11 : ld (st h 2 t (by4 v x)) 1 1 = t := (ld_st_ne (Or.inl (by decide))).trans e
    refine ⟨?_, wf_st w1 n11⟩
    rw [e3_3, if_neg (by omega), if_pos (F_a1 w), e, if_pos t1, e3_17, if_pos (F_a1 w), if_pos (F_a1 w), P_1_0 w, if_pos (W_a2 w), e, L_a2 w, if_pos ⟨t0, t1⟩, e2, e3_34, if_pos (F_a1 w1), if_pos (W_a1 w1), e11, wk t0 (N := 700) t1 (by decide), e3_44, show w32 (x + -8) = x - 8 by unfold w32; omega]
  generalize ht : ld h 1 1 = t at *
  obtain ⟨s1, w1⟩ := step h 24 t w ht h0 (by omega) (by decide) (by decide)
  have t1 : ld (st (st h 2 t (by4 v 24)) 1 1 (t + 1)) 1 1 = t + 1 := ld_st_eq _ _ _ _
  have u1 : ∀ a j, a ≠ 2 → ¬ (a = 1 ∧ j = 1) → ld (st (st h 2 t (by4 v 24)) 1 1 (t + 1)) a j = ld h a j := fun a j p q => (ld_st_ne (by omega)).trans (ld_st_ne (by omega))
  have v1 : ∀ j, ld (st (st h 2 t (by4 v 24)) 1 1 (t + 1)) 2 j = if j = t then by4 v 24 else ld h 2 j := fun j => (ld_st_ne (by omega)).trans (ld_up _ _ _ _ _)
  have k1 : (st (st h 2 t (by4 v 24)) 1 1 (t + 1)).2 = h.2 := rfl
  generalize st (st h 2 t (by4 v 24)) 1 1 (t + 1) = ha at *
  obtain ⟨s2, w2⟩ := step ha 16 (t + 1) w1 t1 (by omega) (by omega) (by decide) (by decide)
  have t2 : ld (st (st ha 2 (t + 1) (by4 v 16)) 1 1 (t + 1 + 1)) 1 1 = t + 1 + 1 := ld_st_eq _ _ _ _
  have u2 : ∀ a j, a ≠ 2 → ¬ (a = 1 ∧ j = 1) → ld (st (st ha 2 (t + 1) (by4 v 16)) 1 1 (t + 1 + 1)) a j = ld ha a j := fun a j p q => (ld_st_ne (by omega)).trans (ld_st_ne (by omega))
  have v2 : ∀ j, ld (st (st ha 2 (t + 1) (by4 v 16)) 1 1 (t + 1 + 1)) 2 j = if j = t + 1 then by4 v 16 else ld ha 2 j := fun j => (ld_st_ne (by omega)).trans (ld_up _ _ _ _ _)
  have k2 : (st (st ha 2 (t + 1) (by4 v 16)) 1 1 (t + 1 + 1)).2 = ha.2 := rfl
  generalize st (st ha 2 (t + 1) (by4 v 16)) 1 1 (t + 1 + 1) = hb at *
  obtain ⟨s3, w3⟩ := step hb 8 (t + 1 + 1) w2 t2 (by omega) (by omega) (by decide) (by decide)
  have t3 : ld (st (st hb 2 (t + 1 + 1) (by4 v 8)) 1 1 (t + 1 + 1 + 1)) 1 1 = t + 1 + 1 + 1 := ld_st_eq _ _ _ _
  have u3 : ∀ a j, a ≠ 2 → ¬ (a = 1 ∧ j = 1) → ld (st (st hb 2 (t + 1 + 1) (by4 v 8)) 1 1 (t + 1 + 1 + 1)) a j = ld hb a j := fun a j p q => (ld_st_ne (by omega)).trans (ld_st_ne (by omega))
  have v3 : ∀ j, ld (st (st hb 2 (t + 1 + 1) (by4 v 8)) 1 1 (t + 1 + 1 + 1)) 2 j = if j = t + 1 + 1 then by4 v 8 else ld hb 2 j := fun j => (ld_st_ne (by omega)).trans (ld_up _ _ _ _ _)
  have k3 : (st (st hb 2 (t + 1 + 1) (by4 v 8)) 1 1 (t + 1 + 1 + 1)).2 = hb.2 := rfl
  generalize st (st hb 2 (t + 1 + 1) (by4 v 8)) 1 1 (t + 1 + 1 + 1) = hc at *
  obtain ⟨s4, w4⟩ := step hc 0 (t + 1 + 1 + 1) w3 t3 (by omega) (by omega) (by decide) (by decide)
  have t4 : ld (st (st hc 2 (t + 1 + 1 + 1) (by4 v 0)) 1 1 (t + 1 + 1 + 1 + 1)) 1 1 = t + 1 + 1 + 1 + 1 := ld_st_eq _ _ _ _
  have u4 : ∀ a j, a ≠ 2 → ¬ (a = 1 ∧ j = 1) → ld (st (st hc 2 (t + 1 + 1 + 1) (by4 v 0)) 1 1 (t + 1 + 1 + 1 + 1)) a j = ld hc a j := fun a j p q => (ld_st_ne (by omega)).trans (ld_st_ne (by omega))
  have v4 : ∀ j, ld (st (st hc 2 (t + 1 + 1 + 1) (by4 v 0)) 1 1 (t + 1 + 1 + 1 + 1)) 2 j = if j = t + 1 + 1 + 1 then by4 v 0 else ld hc 2 j := fun j => (ld_st_ne (by omega)).trans (ld_up _ _ _ _ _)
  refine ⟨_, ?_, w4, ?_, by rw [t4]; omega, funext fun j => ?_, fun a j p q => (u4 a j p q).trans ((u3 a j p q).trans ((u2 a j p q).trans (u1 a j p q)))⟩
  · rw [ce_3, e3_0, s1, show (24 : Int) - 8 = 16 from rfl, s2, show (16 : Int) - 8 = 8 from rfl, s3, show (8 : Int) - 8 = 0 from rfl, s4, show (0 : Int) - 8 = -8 from rfl, e3_3, if_pos (by decide), e3_50]
  · exact (show (st (st hc 2 (t + 1 + 1 + 1) (by4 v 0)) 1 1 (t + 1 + 1 + 1 + 1)).2 = hc.2 from rfl).trans (k3.trans (k2.trans k1))
  · show ld _ 2 j = _
    rw [v4, v3, v2, v1]
    unfold pt4 tpC
    rw [show t + 1 + 1 + 1 = t + 3 by omega, show t + 1 + 1 = t + 2 by omega]
end PM
