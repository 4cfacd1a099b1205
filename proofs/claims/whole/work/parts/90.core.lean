/-! layer 2: what both programs stand for -/
def Zt : Type := (Int → Int) × (Int) × (Int) × (Int) × (Wd) × (Wd) × (Option Wd) × (Int → Int → Int) × (List Wd) × (Int → Int) × (Int → Int) × (Int) × (Int)
abbrev Zt.tp (z : Zt) : Int → Int := z.1
abbrev Zt.tn (z : Zt) : Int := z.2.1
abbrev Zt.fk (z : Zt) : Int := z.2.2.1
abbrev Zt.fp (z : Zt) : Int := z.2.2.2.1
abbrev Zt.T (z : Zt) : Wd := z.2.2.2.2.1
abbrev Zt.S (z : Zt) : Wd := z.2.2.2.2.2.1
abbrev Zt.im (z : Zt) : Option Wd := z.2.2.2.2.2.2.1
abbrev Zt.dg (z : Zt) : Int → Int → Int := z.2.2.2.2.2.2.2.1
abbrev Zt.past (z : Zt) : List Wd := z.2.2.2.2.2.2.2.2.1
abbrev Zt.sk (z : Zt) : Int → Int := z.2.2.2.2.2.2.2.2.2.1
abbrev Zt.sa (z : Zt) : Int → Int := z.2.2.2.2.2.2.2.2.2.2.1
abbrev Zt.sz (z : Zt) : Int := z.2.2.2.2.2.2.2.2.2.2.2.1
abbrev Zt.kb (z : Zt) : Int := z.2.2.2.2.2.2.2.2.2.2.2.2
abbrev Zt.setS (z : Zt) (v : Wd) : Zt := (z.1, z.2.1, z.2.2.1, z.2.2.2.1, z.2.2.2.2.1, v, z.2.2.2.2.2.2.1, z.2.2.2.2.2.2.2.1, z.2.2.2.2.2.2.2.2.1, z.2.2.2.2.2.2.2.2.2.1, z.2.2.2.2.2.2.2.2.2.2.1, z.2.2.2.2.2.2.2.2.2.2.2.1, z.2.2.2.2.2.2.2.2.2.2.2.2)
abbrev Zt.setPast (z : Zt) (v : List Wd) : Zt := (z.1, z.2.1, z.2.2.1, z.2.2.2.1, z.2.2.2.2.1, z.2.2.2.2.2.1, z.2.2.2.2.2.2.1, z.2.2.2.2.2.2.2.1, v, z.2.2.2.2.2.2.2.2.2.1, z.2.2.2.2.2.2.2.2.2.2.1, z.2.2.2.2.2.2.2.2.2.2.2.1, z.2.2.2.2.2.2.2.2.2.2.2.2)
abbrev Zt.setIm (z : Zt) (v : Option Wd) : Zt := (z.1, z.2.1, z.2.2.1, z.2.2.2.1, z.2.2.2.2.1, z.2.2.2.2.2.1, v, z.2.2.2.2.2.2.2.1, z.2.2.2.2.2.2.2.2.1, z.2.2.2.2.2.2.2.2.2.1, z.2.2.2.2.2.2.2.2.2.2.1, z.2.2.2.2.2.2.2.2.2.2.2.1, z.2.2.2.2.2.2.2.2.2.2.2.2)
abbrev Zt.setDg (z : Zt) (v : Int → Int → Int) : Zt := (z.1, z.2.1, z.2.2.1, z.2.2.2.1, z.2.2.2.2.1, z.2.2.2.2.2.1, z.2.2.2.2.2.2.1, v, z.2.2.2.2.2.2.2.2.1, z.2.2.2.2.2.2.2.2.2.1, z.2.2.2.2.2.2.2.2.2.2.1, z.2.2.2.2.2.2.2.2.2.2.2.1, z.2.2.2.2.2.2.2.2.2.2.2.2)
abbrev Zt.setTape (z : Zt) (v : Int → Int) (u : Int) : Zt := (v, u, z.2.2.1, z.2.2.2.1, z.2.2.2.2.1, z.2.2.2.2.2.1, z.2.2.2.2.2.2.1, z.2.2.2.2.2.2.2.1, z.2.2.2.2.2.2.2.2.1, z.2.2.2.2.2.2.2.2.2.1, z.2.2.2.2.2.2.2.2.2.2.1, z.2.2.2.2.2.2.2.2.2.2.2.1, z.2.2.2.2.2.2.2.2.2.2.2.2)
abbrev Zt.setSee (z : Zt) (v : Int → Int) (u : Int → Int) (x : Int) : Zt := (z.1, z.2.1, z.2.2.1, z.2.2.2.1, z.2.2.2.2.1, z.2.2.2.2.2.1, z.2.2.2.2.2.2.1, z.2.2.2.2.2.2.2.1, z.2.2.2.2.2.2.2.2.1, v, u, x, z.2.2.2.2.2.2.2.2.2.2.2.2)
abbrev Zt.setKb (z : Zt) (v : Int) : Zt := (z.1, z.2.1, z.2.2.1, z.2.2.2.1, z.2.2.2.2.1, z.2.2.2.2.2.1, z.2.2.2.2.2.2.1, z.2.2.2.2.2.2.2.1, z.2.2.2.2.2.2.2.2.1, z.2.2.2.2.2.2.2.2.2.1, z.2.2.2.2.2.2.2.2.2.2.1, z.2.2.2.2.2.2.2.2.2.2.2.1, v)
abbrev Zt.setFlt (z : Zt) (x : Int) (v : Int) (u : Int) : Zt := (z.1, x, v, u, z.2.2.2.2.1, z.2.2.2.2.2.1, z.2.2.2.2.2.2.1, z.2.2.2.2.2.2.2.1, z.2.2.2.2.2.2.2.2.1, z.2.2.2.2.2.2.2.2.2.1, z.2.2.2.2.2.2.2.2.2.2.1, z.2.2.2.2.2.2.2.2.2.2.2.1, z.2.2.2.2.2.2.2.2.2.2.2.2)
abbrev Zt.setTxt (z : Zt) (x : Int) (v : Int) (u : Int) (t : Wd) (y : Wd) (i : Option Wd) (p : List Wd) (a : Int) (b : Int) : Zt := (z.1, x, v, u, t, y, i, z.2.2.2.2.2.2.2.1, p, z.2.2.2.2.2.2.2.2.2.1, z.2.2.2.2.2.2.2.2.2.2.1, a, b)
def DOK (S : Wd) : Prop := 0 ≤ S 0 0 ∧ S 0 0 ≤ 100
def psl (h : Hp) (i : Nat) : Int := 123 + 8 * rix (ld h 121 1) (ld h 121 2 - 1 - (i : Int))
def CR (h : Hp) (z : Zt) : Prop :=
  (WF h) ∧
  (ld h 1 3 ∈ BKL) ∧
  (ld h 1 4 ∈ BKL) ∧
  (ld h 1 3 ≠ ld h 1 4) ∧
  (tpC h = z.tp) ∧
  (ld h 1 1 = z.tn) ∧
  (0 ≤ z.tn ∧ z.tn ≤ 700) ∧
  (NB h) ∧
  (ld h 3 7 = z.fk) ∧
  (ld h 3 8 = z.fp) ∧
  (tC h (ld h 1 3) = z.T) ∧
  (CK h 97 (ld h 1 3)) ∧
  (sV h 97 (ld h 1 3) = z.S) ∧
  (SOK z.S) ∧
  (DOK z.S) ∧
  (z.im = none → ld h 1 8 = 0) ∧
  (∀ I, z.im = some I → ld h 1 8 = 1 ∧ CK h 113 (ld h 1 3) ∧ sV h 113 (ld h 1 3) = I ∧ SOK I ∧ DOK I) ∧
  (∀ w t : Int, 0 ≤ w → w < 3 → 0 ≤ t → t < 100 → ld h (288 + w) t = z.dg w t) ∧
  (0 ≤ ld h 121 1 ∧ ld h 121 1 < 20) ∧
  (ld h 121 2 = (z.past.length : Int)) ∧
  (z.past.length ≤ 20) ∧
  (∀ (i : Nat) (P : Wd), z.past[i]? = some P → CK h (psl h i) (ld h 1 3) ∧ sV h (psl h i) (ld h 1 3) = P ∧ SOK P ∧ DOK P) ∧
  (∀ k : Int, 0 ≤ k → k < 24 → ld h 309 k = z.sk k) ∧
  (∀ k : Int, 0 ≤ k → k < 24 → ld h 310 k = z.sa k) ∧
  (ld h 308 2 = z.sz) ∧
  (0 ≤ z.sz ∧ z.sz ≤ 24) ∧
  (ld h 308 3 = z.kb) ∧
  (-1 ≤ z.kb ∧ z.kb ≤ z.sz)
section CP
variable {h : Hp} {z : Zt}
theorem CR.w (c : CR h z) : WF h := c.1
theorem CR.hb (c : CR h z) : ld h 1 3 ∈ BKL := c.2.1
theorem CR.hd (c : CR h z) : ld h 1 4 ∈ BKL := c.2.2.1
theorem CR.ne (c : CR h z) : ld h 1 3 ≠ ld h 1 4 := c.2.2.2.1
theorem CR.tp (c : CR h z) : tpC h = z.tp := c.2.2.2.2.1
theorem CR.tn (c : CR h z) : ld h 1 1 = z.tn := c.2.2.2.2.2.1
theorem CR.tnb (c : CR h z) : 0 ≤ z.tn ∧ z.tn ≤ 700 := c.2.2.2.2.2.2.1
theorem CR.nb (c : CR h z) : NB h := c.2.2.2.2.2.2.2.1
theorem CR.fk (c : CR h z) : ld h 3 7 = z.fk := c.2.2.2.2.2.2.2.2.1
theorem CR.fp (c : CR h z) : ld h 3 8 = z.fp := c.2.2.2.2.2.2.2.2.2.1
theorem CR.T (c : CR h z) : tC h (ld h 1 3) = z.T := c.2.2.2.2.2.2.2.2.2.2.1
theorem CR.ck (c : CR h z) : CK h 97 (ld h 1 3) := c.2.2.2.2.2.2.2.2.2.2.2.1
theorem CR.S (c : CR h z) : sV h 97 (ld h 1 3) = z.S := c.2.2.2.2.2.2.2.2.2.2.2.2.1
theorem CR.ok (c : CR h z) : SOK z.S := c.2.2.2.2.2.2.2.2.2.2.2.2.2.1
theorem CR.dok (c : CR h z) : DOK z.S := c.2.2.2.2.2.2.2.2.2.2.2.2.2.2.1
theorem CR.im0 (c : CR h z) : z.im = none → ld h 1 8 = 0 := c.2.2.2.2.2.2.2.2.2.2.2.2.2.2.2.1
theorem CR.im1 (c : CR h z) : ∀ I, z.im = some I → ld h 1 8 = 1 ∧ CK h 113 (ld h 1 3) ∧ sV h 113 (ld h 1 3) = I ∧ SOK I ∧ DOK I := c.2.2.2.2.2.2.2.2.2.2.2.2.2.2.2.2.1
theorem CR.dg (c : CR h z) : ∀ w t : Int, 0 ≤ w → w < 3 → 0 ≤ t → t < 100 → ld h (288 + w) t = z.dg w t := c.2.2.2.2.2.2.2.2.2.2.2.2.2.2.2.2.2.1
theorem CR.pf (c : CR h z) : 0 ≤ ld h 121 1 ∧ ld h 121 1 < 20 := c.2.2.2.2.2.2.2.2.2.2.2.2.2.2.2.2.2.2.1
theorem CR.pz (c : CR h z) : ld h 121 2 = (z.past.length : Int) := c.2.2.2.2.2.2.2.2.2.2.2.2.2.2.2.2.2.2.2.1
theorem CR.pl (c : CR h z) : z.past.length ≤ 20 := c.2.2.2.2.2.2.2.2.2.2.2.2.2.2.2.2.2.2.2.2.1
theorem CR.past (c : CR h z) : ∀ (i : Nat) (P : Wd), z.past[i]? = some P → CK h (psl h i) (ld h 1 3) ∧ sV h (psl h i) (ld h 1 3) = P ∧ SOK P ∧ DOK P := c.2.2.2.2.2.2.2.2.2.2.2.2.2.2.2.2.2.2.2.2.2.1
theorem CR.sk (c : CR h z) : ∀ k : Int, 0 ≤ k → k < 24 → ld h 309 k = z.sk k := c.2.2.2.2.2.2.2.2.2.2.2.2.2.2.2.2.2.2.2.2.2.2.1
theorem CR.sa (c : CR h z) : ∀ k : Int, 0 ≤ k → k < 24 → ld h 310 k = z.sa k := c.2.2.2.2.2.2.2.2.2.2.2.2.2.2.2.2.2.2.2.2.2.2.2.1
theorem CR.sz (c : CR h z) : ld h 308 2 = z.sz := c.2.2.2.2.2.2.2.2.2.2.2.2.2.2.2.2.2.2.2.2.2.2.2.2.1
theorem CR.szb (c : CR h z) : 0 ≤ z.sz ∧ z.sz ≤ 24 := c.2.2.2.2.2.2.2.2.2.2.2.2.2.2.2.2.2.2.2.2.2.2.2.2.2.1
theorem CR.kb (c : CR h z) : ld h 308 3 = z.kb := c.2.2.2.2.2.2.2.2.2.2.2.2.2.2.2.2.2.2.2.2.2.2.2.2.2.2.1
theorem CR.kbb (c : CR h z) : -1 ≤ z.kb ∧ z.kb ≤ z.sz := c.2.2.2.2.2.2.2.2.2.2.2.2.2.2.2.2.2.2.2.2.2.2.2.2.2.2.2
end CP
def FrC (h h' : Hp) : Prop := h'.2 = h.2 ∧ ∀ a j : Int, 311 ≤ a → ld h' a j = ld h a j
theorem FrC_rf {h : Hp} : FrC h h := ⟨rfl, fun _ _ _ => rfl⟩
theorem FrC_tr {h h1 h2 : Hp} (f : FrC h h1) (g : FrC h1 h2) : FrC h h2 := ⟨g.1.trans f.1, fun a j e => (g.2 a j e).trans (f.2 a j e)⟩
theorem scr_311 {a : Int} (ha : 311 ≤ a) : scr a = false := by
  unfold scr
  rw [← Bool.not_eq_true, List.contains_iff_mem]
  intro hm
  have := of_decide_eq_true (List.all_eq_true.mp (show SCRL.all (fun x => decide (x < 311)) = true by decide +kernel) a hm)
  omega
theorem scr_no {a : Int} (ha : SCRL.all (fun x => decide (x ≠ a)) = true) : scr a = false := by
  unfold scr
  rw [← Bool.not_eq_true, List.contains_iff_mem]
  intro hm
  exact (of_decide_eq_true (List.all_eq_true.mp ha a hm)) rfl
theorem scr_rng : SCRL.all (fun x => decide (x = 58 ∨ x = 62 ∨ x = 66 ∨ x = 88 ∨ x = 92 ∨ x = 96 ∨ x = 104 ∨ x = 112 ∨ x = 120 ∨ (130 ≤ x ∧ x ≤ 282 ∧ (x - 130) % 8 = 0))) = true := by decide +kernel
/-- a cell that is in none of these places is no scratch cell -/
theorem scr_if {a : Int} (h : ¬ (a = 58 ∨ a = 62 ∨ a = 66 ∨ a = 88 ∨ a = 92 ∨ a = 96 ∨ a = 104 ∨ a = 112 ∨ a = 120 ∨ (130 ≤ a ∧ a ≤ 282 ∧ (a - 130) % 8 = 0))) : scr a = false := by
  unfold scr
  rw [← Bool.not_eq_true, List.contains_iff_mem]
  intro hm
  exact h (of_decide_eq_true (List.all_eq_true.mp scr_rng a hm))
def nz (a j : Int) : Prop := scr a = false ∧ ¬ (97 ≤ a ∧ a ≤ 103) ∧ ¬ (105 ≤ a ∧ a ≤ 111) ∧ ¬ (283 ≤ a ∧ a ≤ 286) ∧ ¬ (291 ≤ a ∧ a ≤ 307) ∧ ¬ (a = 308 ∧ (j = 4 ∨ j = 5))
theorem stl_r {t : Int} (ht : t ∈ STL) : t = 97 ∨ t = 105 ∨ t = 113 ∨ (123 ≤ t ∧ t ≤ 275 ∧ (t - 123) % 8 = 0) := of_decide_eq_true (List.all_eq_true.mp (show STL.all (fun t => decide (t = 97 ∨ t = 105 ∨ t = 113 ∨ (123 ≤ t ∧ t ≤ 275 ∧ (t - 123) % 8 = 0))) = true by decide +kernel) t ht)
theorem bk_scr {b i : Int} (hb : b ∈ BKL) (h0 : 0 ≤ i) (h1 : i < 30) (a1 : i ≠ 21) (a2 : i ≠ 25) (a3 : i ≠ 29) : scr (b + i) = false := scr_if (by rcases bk_b hb with rfl | rfl <;> omega)
section CO
variable {h h' : Hp} {z : Zt}
theorem nz_B (fr : ∀ a j, nz a j → ld h' a j = ld h a j) {b : Int} (hb : b ∈ BKL) : EqB h h' b := fun i h0 h1 a1 a2 a3 k => fr _ _ ⟨bk_scr hb h0 h1 a1 a2 a3, by rcases bk_b hb with rfl | rfl <;> omega, by rcases bk_b hb with rfl | rfl <;> omega, by rcases bk_b hb with rfl | rfl <;> omega, by rcases bk_b hb with rfl | rfl <;> omega, by rcases bk_b hb with rfl | rfl <;> omega⟩
theorem nz_S (fr : ∀ a j, nz a j → ld h' a j = ld h a j) {t : Int} (ht : t ∈ STL) (h3 : 113 ≤ t) : EqS h h' t := fun i h0 h1 k => by
  have r := stl_r ht
  exact fr _ _ ⟨scr_if (by omega), by omega, by omega, by omega, by omega, by omega⟩
theorem psl_S (w : WF h) (pf : 0 ≤ ld h 121 1 ∧ ld h 121 1 < 20) {i : Nat} (hz : (i : Int) < ld h 121 2) (hz2 : ld h 121 2 ≤ 20) : psl h i ∈ STL ∧ 113 ≤ psl h i := by
  have rb := rix_b pf (i := ld h 121 2 - 1 - (i : Int)) (by omega)
  obtain ⟨-, r2⟩ := ring_f w rb
  exact ⟨r2, by unfold psl; omega⟩
/-- the studio of now changes, all else stays -/
theorem CR_gen (c : CR h z) {S' : Wd} (w' : WF h') (fr : ∀ a j, nz a j → ld h' a j = ld h a j) (ck : CK h' 97 (ld h 1 3)) (eS : sV h' 97 (ld h 1 3) = S') (ok : SOK S') (dok : DOK S') : CR h' (z.setS S') := by
  have fq : ∀ a j, (a ≤ 36 ∨ a = 121 ∨ (287 ≤ a ∧ a ≤ 290) ∨ (308 ≤ a ∧ ¬ (a = 308 ∧ (j = 4 ∨ j = 5)))) → ld h' a j = ld h a j := fun a j e => fr a j ⟨scr_if (by omega), by omega, by omega, by omega, by omega, by omega⟩
  have e3 : ld h' 1 3 = ld h 1 3 := fq 1 3 (by decide)
  have e121 := fq 121 1 (by decide)
  have e122 := fq 121 2 (by decide)
  have ep : ∀ i, psl h' i = psl h i := fun i => by unfold psl; rw [e121, e122]
  have eb := nz_B fr c.hb
  refine ⟨w', by rw [e3]; exact c.hb, by rw [fq 1 4 (by decide)]; exact c.hd, by rw [e3, fq 1 4 (by decide)]; exact c.ne, (funext fun j => fq 2 j (Or.inl (by decide))).trans c.tp, (fq 1 1 (by decide)).trans c.tn, c.tnb, by have := c.nb; unfold NB at this ⊢; rw [fq 4 5 (by decide)]; exact this, (fq 3 7 (by decide)).trans c.fk, (fq 3 8 (by decide)).trans c.fp, by rw [e3, tC_eq eb]; exact c.T, by rw [e3]; exact ck, by rw [e3]; exact eS, ok, dok, fun e => (fq 1 8 (by decide)).trans (c.im0 e), fun I e => ?_, fun w t w0 w1 t0 t1 => (fq _ _ (by omega)).trans (c.dg w t w0 w1 t0 t1), by rw [e121]; exact c.pf, e122.trans c.pz, c.pl, fun i P e => ?_, fun k k0 k1 => (fq 309 k (by omega)).trans (c.sk k k0 k1), fun k k0 k1 => (fq 310 k (by omega)).trans (c.sa k k0 k1), (fq 308 2 (by decide)).trans c.sz, c.szb, (fq 308 3 (by decide)).trans c.kb, c.kbb⟩
  · obtain ⟨i1, i2, i3, i4⟩ := c.im1 I e
    have es := nz_S fr i2.2.1 (by decide)
    rw [e3]
    exact ⟨(fq 1 8 (by decide)).trans i1, CK_eq i2 w' eb es, (sV_eq eb es).trans i3, i4⟩
  · obtain ⟨p1, p2, p3⟩ := c.past i P e
    have hi : i < z.past.length := by
      rcases List.getElem?_eq_some_iff.mp e with ⟨q, -⟩; exact q
    have hl := c.pl
    have hz := c.pz
    obtain ⟨r1, r2⟩ := psl_S c.w c.pf (i := i) (by omega) (by omega)
    have es := nz_S fr r1 r2
    rw [e3, ep]
    exact ⟨CK_eq p1 w' eb es, (sV_eq eb es).trans p2, p3⟩
theorem CR_scr (c : CR h z) (w' : WF h') (fr : ∀ a j, scr a = false → ¬ (105 ≤ a ∧ a ≤ 111) → ¬ (283 ≤ a ∧ a ≤ 286) → ¬ (291 ≤ a ∧ a ≤ 307) → ¬ (a = 308 ∧ (j = 4 ∨ j = 5)) → ld h' a j = ld h a j) : CR h' z := by
  have eb : EqB h h' (ld h 1 3) := nz_B (fun a j e => fr a j e.1 e.2.2.1 e.2.2.2.1 e.2.2.2.2.1 e.2.2.2.2.2) c.hb
  have es : EqS h h' 97 := fun i h0 h1 k => fr _ _ (scr_if (by omega)) (by omega) (by omega) (by omega) (by omega)
  exact CR_gen (S' := z.S) c w' (fun a j e => fr a j e.1 e.2.2.1 e.2.2.2.1 e.2.2.2.2.1 e.2.2.2.2.2) (CK_eq c.ck w' eb es) ((sV_eq eb es).trans c.S) c.ok c.dok
theorem CR_FrS (c : CR h z) (f : FrS h h') : CR h' z ∧ FrC h h' := ⟨CR_scr c f.1 (fun a j e _ _ _ _ => f.2.2 a j e), f.2.1, fun a j e => f.2.2 a j (scr_311 e)⟩
/-- the studio of now moves; what is written in passing lies in lo .. hi -/
theorem CR_Mx (c : CR h z) {lo hi : Int} {S' : Wd} (m : Mx lo hi 97 (ld h 1 3) h h' S') (hr : (lo = 283 ∧ hi = 286) ∨ (lo = 291 ∧ hi = 292) ∨ (lo = 293 ∧ hi = 307)) (ok : SOK S') (dok : DOK S') : CR h' (z.setS S') ∧ FrC h h' := by
  refine ⟨CR_gen c m.1 (fun a j e => m.2.2.1 a j e.1 (by have := e.2.1; omega) (by have := e.2.2.2.1; have := e.2.2.2.2.1; omega)) ?_ m.2.2.2.2 ok dok, m.2.1, fun a j e => m.2.2.1 a j (scr_311 e) (by omega) (by omega)⟩
  obtain ⟨-, c2, c3, c4, c5, c6, c7, c8⟩ := id c.ck
  have eb := Mx_B m (by omega) c2 c3
  exact ⟨m.1, c2, c3, m.2.2.2.1, by rw [tC_eq eb]; exact c5, CB_eq eb c6, by rw [tC_eq eb]; exact c7, by rw [m.2.2.2.2]; exact ok.1⟩
theorem CR_Md (c : CR h z) {S' : Wd} (m : Md 97 (ld h 1 3) h h' S') (ok : SOK S') (dok : DOK S') : CR h' (z.setS S') ∧ FrC h h' := CR_Mx c (Mx_of m (lo := 283) (hi := 286)) (Or.inl ⟨rfl, rfl⟩) ok dok
/-- the now is kept in the past -/
theorem CR_push (c : CR h z) (d : Nat) : ∃ h', C (d + 1) 133 [(2, 121), (2, 97)] h = some ((9, 0), h') ∧ CR h' (z.setPast ((z.S :: z.past).take 20)) ∧ FrC h h' ∧ ld h' 1 3 = ld h 1 3 ∧ (∀ a j, 283 ≤ a → a ≤ 307 → ld h' a j = ld h a j) := by
  have hz := c.pz
  have hl := c.pl
  obtain ⟨h', a, m, q1, q2⟩ := kq_133 c.ck (by rw [c.S]; exact c.ok) (by decide) c.pf (by omega) d
  have f1 : 0 ≤ pf1 h ∧ pf1 h < 20 := by
    have := c.pf
    unfold pf1
    split
    · rw [Int.tmod_eq_emod_of_nonneg (by omega)]; omega
    · exact this
  have z1 : 0 ≤ pz1 h ∧ pz1 h < 20 := by unfold pz1; split <;> omega
  have rb := rix_b f1 (i := pz1 h) (by omega)
  obtain ⟨r1, r2⟩ := ring_f c.w rb
  have sr := stl_r r2
  generalize hsl : 123 + 8 * rix (pf1 h) (pz1 h) = sl at *
  have fr : ∀ a j, scr a = false → ¬ (sl ≤ a ∧ a ≤ sl + 6) → ¬ a = 121 → ld h' a j = ld h a j := m.2.2.1
  have fq : ∀ a j, (a ≤ 36 ∨ 283 ≤ a) → ld h' a j = ld h a j := fun a j e => fr a j (scr_if (by omega)) (by omega) (by omega)
  have e3 : ld h' 1 3 = ld h 1 3 := fq 1 3 (by decide)
  have eb : EqB h h' (ld h 1 3) := fun i h0 h1 a1 a2 a3 k => fr _ _ (bk_scr c.hb h0 h1 a1 a2 a3) (by rcases bk_b c.hb with q | q <;> rw [q] <;> omega) (by rcases bk_b c.hb with q | q <;> rw [q] <;> omega)
  have eS : ∀ t, t ∈ STL → t ≠ sl → EqS h h' t := fun t ht hn i h0 h1 k => by
    have r := stl_r ht
    exact fr _ _ (scr_if (by omega)) (by omega) (by omega)
  have hT : tC h' (ld h 1 3) = tC h (ld h 1 3) := tC_eq eb
  have ckn : CK h' sl (ld h 1 3) := by
    obtain ⟨-, c2, c3, c4, c5, c6, c7, c8⟩ := id c.ck
    exact ⟨m.1, r2, c3, m.2.2.2.1, by rw [hT]; exact c5, CB_eq eb c6, by rw [hT]; exact c7, by rw [m.2.2.2.2]; exact c8⟩
  refine ⟨h', a, ?_, ⟨m.2.1, fun a j e => fq a j (by omega)⟩, e3, fun a j e _ => fq a j (by omega)⟩
  refine ⟨m.1, by rw [e3]; exact c.hb, by rw [fq 1 4 (by decide)]; exact c.hd, by rw [e3, fq 1 4 (by decide)]; exact c.ne, (funext fun j => fq 2 j (Or.inl (by decide))).trans c.tp, (fq 1 1 (by decide)).trans c.tn, c.tnb, by have := c.nb; unfold NB at this ⊢; rw [fq 4 5 (by decide)]; exact this, (fq 3 7 (by decide)).trans c.fk, (fq 3 8 (by decide)).trans c.fp, by rw [e3, hT]; exact c.T, by rw [e3]; exact CK_eq c.ck m.1 eb (eS 97 c.ck.2.1 (by omega)), by rw [e3]; exact (sV_eq eb (eS 97 c.ck.2.1 (by omega))).trans c.S, c.ok, c.dok, fun e => (fq 1 8 (by decide)).trans (c.im0 e), fun I e => ?_, fun w t w0 w1 t0 t1 => (fq _ _ (by omega)).trans (c.dg w t w0 w1 t0 t1), by rw [q1]; exact f1, ?_, ?_, fun i P e => ?_, fun k k0 k1 => (fq 309 k (by omega)).trans (c.sk k k0 k1), fun k k0 k1 => (fq 310 k (by omega)).trans (c.sa k k0 k1), (fq 308 2 (by decide)).trans c.sz, c.szb, (fq 308 3 (by decide)).trans c.kb, c.kbb⟩
  · obtain ⟨i1, i2, i3, i4⟩ := c.im1 I e
    have es := eS 113 i2.2.1 (by omega)
    rw [e3]
    exact ⟨(fq 1 8 (by decide)).trans i1, CK_eq i2 m.1 eb es, (sV_eq eb es).trans i3, i4⟩
  · rw [q2]
    show _ = (((z.S :: z.past).take 20).length : Int)
    rw [List.length_take, List.length_cons]
    unfold pz1
    split <;> omega
  · show ((z.S :: z.past).take 20).length ≤ 20
    rw [List.length_take]; omega
  · rw [e3]
    have e : ((z.S :: z.past).take 20)[i]? = some P := e
    have hi : i < 20 := by
      by_cases y : i < 20
      · exact y
      · rw [List.getElem?_eq_none (by rw [List.length_take]; omega)] at e; cases e
    rw [List.getElem?_take_of_lt hi] at e
    have ep : psl h' i = 123 + 8 * rix (pf1 h) (pz1 h - (i : Int)) := by unfold psl; rw [q1, q2, show pz1 h + 1 - 1 - (i : Int) = pz1 h - (i : Int) by omega]
    cases i with
    | zero =>
      have e : some z.S = some P := e
      have ep0 : psl h' 0 = sl := by rw [ep, ← hsl]; simp
      rw [ep0, ← Option.some.inj e]
      exact ⟨ckn, m.2.2.2.2.trans c.S, c.ok, c.dok⟩
    | succ i =>
      have e : z.past[i]? = some P := e
      have hlt : i < z.past.length := by
        rcases List.getElem?_eq_some_iff.mp e with ⟨q, -⟩; exact q
      obtain ⟨p1, p2, p3⟩ := c.past i P e
      have hrx : rix (pf1 h) (pz1 h - ((i + 1 : Nat) : Int)) = rix (ld h 121 1) (ld h 121 2 - 1 - (i : Int)) := by
        have := c.pf
        unfold pf1 pz1 rix
        by_cases q : ld h 121 2 = 20
        · rw [if_pos q, if_pos q, q, Int.tmod_eq_emod_of_nonneg (a := ld h 121 1 + 1) (by omega), Int.tmod_eq_emod_of_nonneg (by omega), Int.tmod_eq_emod_of_nonneg (by omega)]
          omega
        · rw [if_neg q, if_neg q]
          rw [show ld h 121 2 - ((i + 1 : Nat) : Int) = ld h 121 2 - 1 - (i : Int) by omega]
      have hne : psl h i ≠ sl := by
        unfold psl
        rw [← hrx, ← hsl]
        have hp : ((i + 1 : Nat) : Int) ≤ pz1 h := by unfold pz1; split <;> omega
        unfold rix
        rw [Int.tmod_eq_emod_of_nonneg (by omega), Int.tmod_eq_emod_of_nonneg (by omega)]
        omega
      have ep1 : psl h' (i + 1) = psl h i := by rw [ep, hrx]; rfl
      have es := eS (psl h i) p1.2.1 hne
      rw [ep1]
      exact ⟨CK_eq p1 m.1 eb es, (sV_eq eb es).trans p2, p3⟩
/-- the past is forgotten -/
theorem CR_clear (c : CR h z) (d : Nat) : ∃ h', C d 132 [(2, 121)] h = some ((9, 0), h') ∧ CR h' (z.setPast []) ∧ FrC h h' ∧ (∀ a j, a ≠ 121 → ld h' a j = ld h a j) := by
  obtain ⟨a, w'⟩ := kq_132 c.w d
  have fr : ∀ a j, a ≠ 121 → ld (st h 121 2 0) a j = ld h a j := fun a j e => ld_st_ne (Or.inl e)
  have e3 := fr 1 3 (by decide)
  have eb : EqB h (st h 121 2 0) (ld h 1 3) := fun i h0 h1 _ _ _ k => fr _ _ (by rcases bk_b c.hb with q | q <;> rw [q] <;> omega)
  have eS : ∀ t, t ∈ STL → EqS h (st h 121 2 0) t := fun t ht i h0 h1 k => by
    have r := stl_r ht
    exact fr _ _ (by omega)
  refine ⟨_, a, ?_, ⟨rfl, fun a j e => fr a j (by omega)⟩, fr⟩
  refine ⟨w', by rw [e3]; exact c.hb, by rw [fr 1 4 (by decide)]; exact c.hd, by rw [e3, fr 1 4 (by decide)]; exact c.ne, (funext fun j => fr 2 j (by decide)).trans c.tp, (fr 1 1 (by decide)).trans c.tn, c.tnb, by have := c.nb; unfold NB at this ⊢; rw [fr 4 5 (by decide)]; exact this, (fr 3 7 (by decide)).trans c.fk, (fr 3 8 (by decide)).trans c.fp, by rw [e3, tC_eq eb]; exact c.T, by rw [e3]; exact CK_eq c.ck w' eb (eS 97 c.ck.2.1), by rw [e3]; exact (sV_eq eb (eS 97 c.ck.2.1)).trans c.S, c.ok, c.dok, fun e => (fr 1 8 (by decide)).trans (c.im0 e), fun I e => ?_, fun w t w0 w1 t0 t1 => (fr _ _ (by omega)).trans (c.dg w t w0 w1 t0 t1), by rw [ld_st_ne (Or.inr (by decide))]; exact c.pf, ld_st_eq _ _ _ _, Nat.zero_le _, fun i P e => (by cases i <;> cases e), fun k k0 k1 => (fr 309 k (by omega)).trans (c.sk k k0 k1), fun k k0 k1 => (fr 310 k (by omega)).trans (c.sa k k0 k1), (fr 308 2 (by decide)).trans c.sz, c.szb, (fr 308 3 (by decide)).trans c.kb, c.kbb⟩
  obtain ⟨i1, i2, i3, i4⟩ := c.im1 I e
  have es := eS 113 i2.2.1
  rw [e3]
  exact ⟨(fr 1 8 (by decide)).trans i1, CK_eq i2 w' eb es, (sV_eq eb es).trans i3, i4⟩
/-- one step back -/
theorem CR_pop (c : CR h z) {P : Wd} {l : List Wd} (hp : z.past = P :: l) (d : Nat) : ∃ h', C (d + 1) 134 [(2, 121), (2, 97)] h = some ((0, (l.length : Int)), h') ∧ CR h' ((z.setS P).setPast l) ∧ FrC h h' := by
  have hz := c.pz
  have hl := c.pl
  rw [hp, List.length_cons] at hz hl
  obtain ⟨p1, p2, p3, p4⟩ := c.past 0 P (by rw [hp]; rfl)
  have e0 : psl h 0 = 123 + 8 * rix (ld h 121 1) (ld h 121 2 - 1) := by unfold psl; rw [show ld h 121 2 - 1 - ((0 : Nat) : Int) = ld h 121 2 - 1 by omega]
  rw [e0] at p1 p2
  obtain ⟨h', a, m, q1, q2⟩ := kq_134 (s := 97) c.ck.2.1 (by decide) c.pf (by omega) p1 (by rw [p2]; exact p3) d
  rw [p2] at m
  have fr : ∀ a j, scr a = false → ¬ (97 ≤ a ∧ a ≤ 103) → ¬ a = 121 → ld h' a j = ld h a j := fun a j e1 e2 e3 => m.2.2.1 a j e1 (by omega) e3
  have fq : ∀ a j, (a ≤ 36 ∨ 283 ≤ a) → ld h' a j = ld h a j := fun a j e => fr a j (scr_if (by omega)) (by omega) (by omega)
  have e3 : ld h' 1 3 = ld h 1 3 := fq 1 3 (by decide)
  have eb : EqB h h' (ld h 1 3) := fun i h0 h1 a1 a2 a3 k => fr _ _ (bk_scr c.hb h0 h1 a1 a2 a3) (by rcases bk_b c.hb with q | q <;> rw [q] <;> omega) (by rcases bk_b c.hb with q | q <;> rw [q] <;> omega)
  have eS : ∀ t, t ∈ STL → 113 ≤ t → EqS h h' t := fun t ht hn i h0 h1 k => by
    have r := stl_r ht
    exact fr _ _ (scr_if (by omega)) (by omega) (by omega)
  have hT : tC h' (ld h 1 3) = tC h (ld h 1 3) := tC_eq eb
  refine ⟨h', by rw [a, show ld h 121 2 - 1 = (l.length : Int) by omega], ?_, m.2.1, fun a j e => fq a j (by omega)⟩
  refine ⟨m.1, by rw [e3]; exact c.hb, by rw [fq 1 4 (by decide)]; exact c.hd, by rw [e3, fq 1 4 (by decide)]; exact c.ne, (funext fun j => fq 2 j (Or.inl (by decide))).trans c.tp, (fq 1 1 (by decide)).trans c.tn, c.tnb, by have := c.nb; unfold NB at this ⊢; rw [fq 4 5 (by decide)]; exact this, (fq 3 7 (by decide)).trans c.fk, (fq 3 8 (by decide)).trans c.fp, by rw [e3, hT]; exact c.T, ?_, by rw [e3]; exact m.2.2.2.2, p3, p4, fun e => (fq 1 8 (by decide)).trans (c.im0 e), fun I e => ?_, fun w t w0 w1 t0 t1 => (fq _ _ (by omega)).trans (c.dg w t w0 w1 t0 t1), by rw [q1]; exact c.pf, ?_, ?_, fun i Q e => ?_, fun k k0 k1 => (fq 309 k (by omega)).trans (c.sk k k0 k1), fun k k0 k1 => (fq 310 k (by omega)).trans (c.sa k k0 k1), (fq 308 2 (by decide)).trans c.sz, c.szb, (fq 308 3 (by decide)).trans c.kb, c.kbb⟩
  · rw [e3]
    obtain ⟨-, c2, c3, c4, c5, c6, c7, c8⟩ := id c.ck
    exact ⟨m.1, c2, c3, m.2.2.2.1, by rw [hT]; exact c5, CB_eq eb c6, by rw [hT]; exact c7, by rw [m.2.2.2.2]; exact p3.1⟩
  · obtain ⟨i1, i2, i3, i4⟩ := c.im1 I e
    have es := eS 113 i2.2.1 (by omega)
    rw [e3]
    exact ⟨(fq 1 8 (by decide)).trans i1, CK_eq i2 m.1 eb es, (sV_eq eb es).trans i3, i4⟩
  · show ld h' 121 2 = (l.length : Int)
    omega
  · show l.length ≤ 20
    omega
  · have e : l[i]? = some Q := e
    have hlt : i < l.length := by
      rcases List.getElem?_eq_some_iff.mp e with ⟨q, -⟩; exact q
    obtain ⟨g1, g2, g3⟩ := c.past (i + 1) Q (by rw [hp]; exact e)
    have ep : psl h' i = psl h (i + 1) := by
      unfold psl
      rw [q1, q2, show ld h 121 2 - 1 - 1 - (i : Int) = ld h 121 2 - 1 - ((i + 1 : Nat) : Int) by omega]
    obtain ⟨r1, r2⟩ := psl_S c.w c.pf (i := i + 1) (by omega) (by omega)
    have es := eS _ r1 r2
    rw [e3, ep]
    exact ⟨CK_eq g1 m.1 eb es, (sV_eq eb es).trans g2, g3⟩
end CO
