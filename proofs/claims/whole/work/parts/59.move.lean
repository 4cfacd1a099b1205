/-! layer 2: what changes a state -/
def up1 (S : Wd) (f : Nat) (v : Int) : Wd := fun g j => if g = f then v else S g j
def up2 (S : Wd) (f : Nat) (i v : Int) : Wd := fun g j => if g = f ∧ j = i then v else S g j
def upc (S : Wd) (p x : Int) : Wd := fun g j => if g = 5 then S 5 0 + 1 else if g = 10 ∧ j = S 5 0 then p else if g = 11 ∧ j = S 5 0 then x else S g j
def sOwn (S : Wd) (p x : Int) : Wd := if S 5 0 < 40 then upc (up2 S 9 p x) p x else up2 S 9 p x
def sStroke (T S : Wd) (p : Int) : Wd := if qDone T (up2 S 8 p (w32 (S 8 p + 1))) p = true then sOwn (up2 S 8 p (w32 (S 8 p + 1))) p (T 12 p) else up2 S 8 p (w32 (S 8 p + 1))
def sInit (T : Wd) : Wd := fun f i => match f with | 6 => T 8 i | 9 => rng i (T 2 0) (-1) | _ => 0
def fldS (g : Int → Wd → Wd) : Nat → Int → Wd → Wd
  | 0, _, S => S
  | n + 1, k, S => fldS g n (k + 1) (g k S)
def sDie1 (S : Wd) (x : Int) : Wd := up1 S 2 (or32 (S 2 0) (shl32 1 x))
def sDie2 (S : Wd) (x r : Int) : Wd := up2 (if r = -2 then up1 S 1 (w32 (S 1 0 + S 6 x)) else up2 S 6 r (w32 (S 6 r + S 6 x))) 6 x 0
def sDie3 (x r k : Int) (S : Wd) : Wd := if S 9 k = x then (if r = -2 then up2 S 9 k (-2) else sOwn S k r) else S
def sDieR (T S : Wd) (x : Int) : Int := sHeir T (sDie1 S x) x
def sDie (T S : Wd) (x : Int) : Wd := fldS (sDie3 x (sDieR T S x)) (T 2 0).toNat 0 (sDie2 (sDie1 S x) x (sDieR T S x))
/-- ranges of a state -/
def SOK (S : Wd) : Prop := (∀ f i, I32 (S f i)) ∧ 0 ≤ S 5 0 ∧ S 5 0 ≤ 40 ∧ (∀ i, S 5 i = S 5 0)
theorem SOK_up1 {S : Wd} (k : SOK S) {f : Nat} {v : Int} (hv : I32 v) (hf : f ≠ 5) : SOK (up1 S f v) := by
  unfold up1
  refine ⟨fun g i => ?_, ?_⟩
  · show I32 (if g = f then v else S g i); split
    · exact hv
    · exact k.1 g i
  · simp only [if_neg (fun z : 5 = f => hf z.symm)]; exact k.2
theorem SOK_up2 {S : Wd} (k : SOK S) {f : Nat} {i v : Int} (hv : I32 v) (hf : f ≠ 5) : SOK (up2 S f i v) := by
  unfold up2
  refine ⟨fun g j => ?_, ?_⟩
  · show I32 (if g = f ∧ j = i then v else S g j); split
    · exact hv
    · exact k.1 g j
  · have e : ∀ j, (if 5 = f ∧ j = i then v else S 5 j) = S 5 j := fun j => if_neg (fun z => hf z.1.symm)
    simp only [e]; exact k.2
theorem SOK_own {S : Wd} (k : SOK S) {p x : Int} (hp : I32 p) (hx : I32 x) : SOK (sOwn S p x) := by
  have k1 : SOK (up2 S 9 p x) := SOK_up2 k hx (by decide)
  unfold sOwn
  split
  · rename_i q
    unfold upc
    have e : up2 S 9 p x 5 0 = S 5 0 := if_neg (fun z => by cases z.1)
    have h0 := k.2.1
    refine ⟨fun g j => ?_, ?_⟩
    · show I32 (if g = 5 then _ else _)
      rw [e]
      split
      · unfold I32; omega
      split
      · exact hp
      split
      · exact hx
      · exact k1.1 g j
    · show 0 ≤ (if 5 = 5 then _ else _) ∧ (if 5 = 5 then _ else _) ≤ (40 : Int) ∧ ∀ i, (if 5 = 5 then _ else _) = (if 5 = 5 then _ else _)
      rw [if_pos rfl, e]
      exact ⟨by omega, by omega, fun _ => rfl⟩
  · exact k1
def Md (s b : Int) (h h' : Hp) (S' : Wd) : Prop := WF h' ∧ h'.2 = h.2 ∧ (∀ a j : Int, scr a = false → ¬ (s ≤ a ∧ a ≤ s + 6) → h'.1 a j = h.1 a j) ∧ ld h' s 0 = b ∧ sV h' s b = S'
theorem stl_b : STL.all (fun s => decide (97 ≤ s ∧ s ≤ 275)) = true := by decide +kernel
theorem stl_sep : STL.all (fun s => STL.all (fun t => decide (s = t ∨ s + 8 ≤ t ∨ t + 8 ≤ s))) = true := by decide +kernel
theorem st_b {s : Int} (hs : s ∈ STL) : 97 ≤ s ∧ s ≤ 275 := of_decide_eq_true (List.all_eq_true.mp stl_b s hs)
theorem st_sep {s t : Int} (hs : s ∈ STL) (ht : t ∈ STL) (e : s ≠ t) : s + 8 ≤ t ∨ t + 8 ≤ s := (of_decide_eq_true (List.all_eq_true.mp (List.all_eq_true.mp stl_sep s hs) t ht)).resolve_left e
theorem bk_b {b : Int} (hb : b ∈ BKL) : b = 37 ∨ b = 67 := by
  rcases List.mem_cons.mp hb with h | h
  · exact Or.inl h
  · exact Or.inr (List.mem_singleton.mp h)
theorem scr_at {s i : Int} (hs : s ∈ STL) (h0 : 0 ≤ i) (h6 : i ≤ 6) : scr (s + i) = false := by
  have := List.all_eq_true.mp scr_s s hs
  rw [Bool.and_eq_true] at this
  have h7 : i = 0 ∨ i = 1 ∨ i = 2 ∨ i = 3 ∨ i = 4 ∨ i = 5 ∨ i = 6 := by omega
  have := List.all_eq_true.mp this.2 i (by rcases h7 with rfl | rfl | rfl | rfl | rfl | rfl | rfl <;> decide)
  simpa using this
theorem Md_B {s b c : Int} {h h' : Hp} {S' : Wd} (m : Md s b h h' S') (hs : s ∈ STL) (hc : c ∈ BKL) : EqB h h' c := fun j h0 h1 a1 a2 a3 k => m.2.2.1 (c + j) k (by
  have := List.all_eq_true.mp (List.all_eq_true.mp scr_b c hc) j (List.mem_map.mpr ⟨j.toNat, List.mem_range.mpr (by omega), by omega⟩)
  rw [Bool.or_eq_true, decide_eq_true_eq, Bool.not_eq_true'] at this
  exact this.resolve_left (by omega)) (by have := st_b hs; rcases bk_b hc with rfl | rfl <;> omega)
theorem Md_S {s b t : Int} {h h' : Hp} {S' : Wd} (m : Md s b h h' S') (hs : s ∈ STL) (ht : t ∈ STL) (e : t ≠ s) : EqS h h' t := fun j h0 h1 k => m.2.2.1 (t + j) k (scr_at ht h0 (by omega)) (by have := st_sep ht hs e; omega)
theorem Md_rf {h : Hp} {s b : Int} (c : CK h s b) : Md s b h h (sV h s b) := ⟨c.1, rfl, fun _ _ _ _ => rfl, c.2.2.2.1, rfl⟩
theorem Md_tr {h h1 h2 : Hp} {s b : Int} {S1 S2 : Wd} (m : Md s b h h1 S1) (n : Md s b h1 h2 S2) : Md s b h h2 S2 := ⟨n.1, n.2.1.trans m.2.1, fun a j e1 e2 => (n.2.2.1 a j e1 e2).trans (m.2.2.1 a j e1 e2), n.2.2.2⟩
theorem Md_fr {h h1 : Hp} {s b : Int} (c : CK h s b) (f : FrS h h1) : Md s b h h1 (sV h s b) :=
  ⟨f.1, f.2.1, fun a j e _ => f.2.2 a j e, (CK_fr c f).1.2.2.2.1, (CK_fr c f).2.2⟩
/-- after a change all is as it should be still -/
theorem CK_md {h h' : Hp} {s b : Int} {S' : Wd} (c : CK h s b) (m : Md s b h h' S') (k : SOK S') : CK h' s b ∧ tC h' b = tC h b ∧ sV h' s b = S' := by
  have eb := Md_B m c.2.1 c.2.2.1
  obtain ⟨-, c2, c3, c4, c5, c6, c7, c8⟩ := c
  exact ⟨⟨m.1, c2, c3, m.2.2.2.1, by rw [tC_eq eb]; exact c5, CB_eq eb c6, by rw [tC_eq eb]; exact c7, by rw [m.2.2.2.2]; exact k.1⟩, tC_eq eb, m.2.2.2.2⟩
/-- another state stays -/
theorem CK_mo {h h' : Hp} {s b t b' : Int} {S' : Wd} (m : Md s b h h' S') (hs : s ∈ STL) (c : CK h t b') (e : t ≠ s) : CK h' t b' ∧ tC h' b' = tC h b' ∧ sV h' t b' = sV h t b' := by
  have eb := Md_B m hs c.2.2.1
  have es := Md_S m hs c.2.1 e
  exact ⟨CK_eq c m.1 eb es, tC_eq eb, sV_eq eb es⟩
section UP
variable {h : Hp} {s b : Int}

theorem sV_u0 (hs : s ∈ STL) (hb : b ∈ BKL) (v : Int) : sV (st h s 1 v) s b = up1 (sV h s b) 0 v := by
  have r := st_b hs
  have nb : ∀ k, ld (st h s 1 v) b k = ld h b k := fun k => ld_st_ne (Or.inl (by rcases bk_b hb with rfl | rfl <;> omega))
  have o : ∀ off : Int, 1 ≤ off → ∀ k, ld (st h s 1 v) (s + off) k = ld h (s + off) k := fun off q k => ld_st_ne (Or.inl (by omega))
  have o0 : ∀ k : Int, k ≠ 1 → ld (st h s 1 v) s k = ld h s k := fun k q => ld_st_ne (Or.inr q)
  funext g j
  show sC _ _ _ _ g j = (if g = 0 then v else sC h s (ld h b 4) (ld h b 11) g j)
  rw [nb, nb]
  by_cases hg : g = 0
  · subst hg; rw [if_pos rfl]; exact ld_st_eq _ _ _ _
  · rw [if_neg hg]
    unfold sC
    split <;> first | rfl | exact absurd rfl hg | (simp only [o 1 (by decide), o 2 (by decide), o 3 (by decide), o 4 (by decide), o 5 (by decide), o 6 (by decide), o0 2 (by decide), o0 3 (by decide), o0 4 (by decide), o0 5 (by decide), o0 10 (by decide)]; done)
theorem Md_u0 (c : CK h s b) (v : Int) : Md s b h (st h s 1 v) (up1 (sV h s b) 0 v) := by
  obtain ⟨w, hs, hb, e, -⟩ := id c
  have r := st_b hs
  refine ⟨wf_st w (npt_J (List.all_eq_true.mp (List.all_eq_true.mp sf_nJ s hs) 1 (by decide))), rfl, fun a j e1 e2 => ld_st_ne (Or.inl (by omega)), (ld_st_ne (Or.inr (by decide))).trans e, sV_u0 hs hb v⟩
theorem sV_u1 (hs : s ∈ STL) (hb : b ∈ BKL) (v : Int) : sV (st h s 2 v) s b = up1 (sV h s b) 1 v := by
  have r := st_b hs
  have nb : ∀ k, ld (st h s 2 v) b k = ld h b k := fun k => ld_st_ne (Or.inl (by rcases bk_b hb with rfl | rfl <;> omega))
  have o : ∀ off : Int, 1 ≤ off → ∀ k, ld (st h s 2 v) (s + off) k = ld h (s + off) k := fun off q k => ld_st_ne (Or.inl (by omega))
  have o0 : ∀ k : Int, k ≠ 2 → ld (st h s 2 v) s k = ld h s k := fun k q => ld_st_ne (Or.inr q)
  funext g j
  show sC _ _ _ _ g j = (if g = 1 then v else sC h s (ld h b 4) (ld h b 11) g j)
  rw [nb, nb]
  by_cases hg : g = 1
  · subst hg; rw [if_pos rfl]; exact ld_st_eq _ _ _ _
  · rw [if_neg hg]
    unfold sC
    split <;> first | rfl | exact absurd rfl hg | (simp only [o 1 (by decide), o 2 (by decide), o 3 (by decide), o 4 (by decide), o 5 (by decide), o 6 (by decide), o0 1 (by decide), o0 3 (by decide), o0 4 (by decide), o0 5 (by decide), o0 10 (by decide)]; done)
theorem Md_u1 (c : CK h s b) (v : Int) : Md s b h (st h s 2 v) (up1 (sV h s b) 1 v) := by
  obtain ⟨w, hs, hb, e, -⟩ := id c
  have r := st_b hs
  refine ⟨wf_st w (npt_J (List.all_eq_true.mp (List.all_eq_true.mp sf_nJ s hs) 2 (by decide))), rfl, fun a j e1 e2 => ld_st_ne (Or.inl (by omega)), (ld_st_ne (Or.inr (by decide))).trans e, sV_u1 hs hb v⟩
theorem sV_u2 (hs : s ∈ STL) (hb : b ∈ BKL) (v : Int) : sV (st h s 3 v) s b = up1 (sV h s b) 2 v := by
  have r := st_b hs
  have nb : ∀ k, ld (st h s 3 v) b k = ld h b k := fun k => ld_st_ne (Or.inl (by rcases bk_b hb with rfl | rfl <;> omega))
  have o : ∀ off : Int, 1 ≤ off → ∀ k, ld (st h s 3 v) (s + off) k = ld h (s + off) k := fun off q k => ld_st_ne (Or.inl (by omega))
  have o0 : ∀ k : Int, k ≠ 3 → ld (st h s 3 v) s k = ld h s k := fun k q => ld_st_ne (Or.inr q)
  funext g j
  show sC _ _ _ _ g j = (if g = 2 then v else sC h s (ld h b 4) (ld h b 11) g j)
  rw [nb, nb]
  by_cases hg : g = 2
  · subst hg; rw [if_pos rfl]; exact ld_st_eq _ _ _ _
  · rw [if_neg hg]
    unfold sC
    split <;> first | rfl | exact absurd rfl hg | (simp only [o 1 (by decide), o 2 (by decide), o 3 (by decide), o 4 (by decide), o 5 (by decide), o 6 (by decide), o0 1 (by decide), o0 2 (by decide), o0 4 (by decide), o0 5 (by decide), o0 10 (by decide)]; done)
theorem Md_u2 (c : CK h s b) (v : Int) : Md s b h (st h s 3 v) (up1 (sV h s b) 2 v) := by
  obtain ⟨w, hs, hb, e, -⟩ := id c
  have r := st_b hs
  refine ⟨wf_st w (npt_J (List.all_eq_true.mp (List.all_eq_true.mp sf_nJ s hs) 3 (by decide))), rfl, fun a j e1 e2 => ld_st_ne (Or.inl (by omega)), (ld_st_ne (Or.inr (by decide))).trans e, sV_u2 hs hb v⟩
theorem sV_u3 (hs : s ∈ STL) (hb : b ∈ BKL) (v : Int) : sV (st h s 4 v) s b = up1 (sV h s b) 3 v := by
  have r := st_b hs
  have nb : ∀ k, ld (st h s 4 v) b k = ld h b k := fun k => ld_st_ne (Or.inl (by rcases bk_b hb with rfl | rfl <;> omega))
  have o : ∀ off : Int, 1 ≤ off → ∀ k, ld (st h s 4 v) (s + off) k = ld h (s + off) k := fun off q k => ld_st_ne (Or.inl (by omega))
  have o0 : ∀ k : Int, k ≠ 4 → ld (st h s 4 v) s k = ld h s k := fun k q => ld_st_ne (Or.inr q)
  funext g j
  show sC _ _ _ _ g j = (if g = 3 then v else sC h s (ld h b 4) (ld h b 11) g j)
  rw [nb, nb]
  by_cases hg : g = 3
  · subst hg; rw [if_pos rfl]; exact ld_st_eq _ _ _ _
  · rw [if_neg hg]
    unfold sC
    split <;> first | rfl | exact absurd rfl hg | (simp only [o 1 (by decide), o 2 (by decide), o 3 (by decide), o 4 (by decide), o 5 (by decide), o 6 (by decide), o0 1 (by decide), o0 2 (by decide), o0 3 (by decide), o0 5 (by decide), o0 10 (by decide)]; done)
theorem Md_u3 (c : CK h s b) (v : Int) : Md s b h (st h s 4 v) (up1 (sV h s b) 3 v) := by
  obtain ⟨w, hs, hb, e, -⟩ := id c
  have r := st_b hs
  refine ⟨wf_st w (npt_J (List.all_eq_true.mp (List.all_eq_true.mp sf_nJ s hs) 4 (by decide))), rfl, fun a j e1 e2 => ld_st_ne (Or.inl (by omega)), (ld_st_ne (Or.inr (by decide))).trans e, sV_u3 hs hb v⟩
theorem sV_u4 (hs : s ∈ STL) (hb : b ∈ BKL) (v : Int) : sV (st h s 5 v) s b = up1 (sV h s b) 4 v := by
  have r := st_b hs
  have nb : ∀ k, ld (st h s 5 v) b k = ld h b k := fun k => ld_st_ne (Or.inl (by rcases bk_b hb with rfl | rfl <;> omega))
  have o : ∀ off : Int, 1 ≤ off → ∀ k, ld (st h s 5 v) (s + off) k = ld h (s + off) k := fun off q k => ld_st_ne (Or.inl (by omega))
  have o0 : ∀ k : Int, k ≠ 5 → ld (st h s 5 v) s k = ld h s k := fun k q => ld_st_ne (Or.inr q)
  funext g j
  show sC _ _ _ _ g j = (if g = 4 then v else sC h s (ld h b 4) (ld h b 11) g j)
  rw [nb, nb]
  by_cases hg : g = 4
  · subst hg; rw [if_pos rfl]; exact ld_st_eq _ _ _ _
  · rw [if_neg hg]
    unfold sC
    split <;> first | rfl | exact absurd rfl hg | (simp only [o 1 (by decide), o 2 (by decide), o 3 (by decide), o 4 (by decide), o 5 (by decide), o 6 (by decide), o0 1 (by decide), o0 2 (by decide), o0 3 (by decide), o0 4 (by decide), o0 10 (by decide)]; done)
theorem Md_u4 (c : CK h s b) (v : Int) : Md s b h (st h s 5 v) (up1 (sV h s b) 4 v) := by
  obtain ⟨w, hs, hb, e, -⟩ := id c
  have r := st_b hs
  refine ⟨wf_st w (npt_J (List.all_eq_true.mp (List.all_eq_true.mp sf_nJ s hs) 5 (by decide))), rfl, fun a j e1 e2 => ld_st_ne (Or.inl (by omega)), (ld_st_ne (Or.inr (by decide))).trans e, sV_u4 hs hb v⟩
theorem sV_u6 (hs : s ∈ STL) (hb : b ∈ BKL) {i : Int} (hi : 0 ≤ i ∧ i < ld h b 4) (v : Int) : sV (st h (s + 1) i v) s b = up2 (sV h s b) 6 i v := by
  have r := st_b hs
  have nb : ∀ k, ld (st h (s + 1) i v) b k = ld h b k := fun k => ld_st_ne (Or.inl (by rcases bk_b hb with rfl | rfl <;> omega))
  have o : ∀ off : Int, off ≠ 1 → ∀ k, ld (st h (s + 1) i v) (s + off) k = ld h (s + off) k := fun off q k => ld_st_ne (Or.inl (by omega))
  have o0 : ∀ k : Int, ld (st h (s + 1) i v) s k = ld h s k := fun k => ld_st_ne (Or.inl (by omega))
  funext g j
  show sC _ _ _ _ g j = (if g = 6 ∧ j = i then v else sC h s (ld h b 4) (ld h b 11) g j)
  rw [nb, nb]
  by_cases hg : g = 6
  · subst hg
    show rng j (ld h b 4) (ld _ (s + 1) j) = (if _ then v else rng j (ld h b 4) (ld h (s + 1) j))
    by_cases hj : j = i
    · subst hj; rw [if_pos ⟨rfl, rfl⟩, rng_in hi, ld_st_eq]
    · rw [if_neg (fun z => hj z.2), ld_st_ne (Or.inr hj)]
  · rw [if_neg (fun z => hg z.1)]
    unfold sC
    split <;> first | rfl | exact absurd rfl hg | (simp only [o 2 (by decide), o 3 (by decide), o 4 (by decide), o 5 (by decide), o 6 (by decide), o0]; done)
theorem Md_u6 (c : CK h s b) {i : Int} (hi : 0 ≤ i ∧ i < ld h b 4) (v : Int) : Md s b h (st h (s + 1) i v) (up2 (sV h s b) 6 i v) := by
  obtain ⟨w, hs, hb, e, -⟩ := id c
  have r := st_b hs
  refine ⟨wf_st w (nfam_at sf_nA hs (by decide) _), rfl, fun a j e1 e2 => ld_st_ne (Or.inl (by omega)), (ld_st_ne (Or.inl (by omega))).trans e, sV_u6 hs hb hi v⟩
theorem sV_u7 (hs : s ∈ STL) (hb : b ∈ BKL) {i : Int} (hi : 0 ≤ i ∧ i < ld h b 11) (v : Int) : sV (st h (s + 2) i v) s b = up2 (sV h s b) 7 i v := by
  have r := st_b hs
  have nb : ∀ k, ld (st h (s + 2) i v) b k = ld h b k := fun k => ld_st_ne (Or.inl (by rcases bk_b hb with rfl | rfl <;> omega))
  have o : ∀ off : Int, off ≠ 2 → ∀ k, ld (st h (s + 2) i v) (s + off) k = ld h (s + off) k := fun off q k => ld_st_ne (Or.inl (by omega))
  have o0 : ∀ k : Int, ld (st h (s + 2) i v) s k = ld h s k := fun k => ld_st_ne (Or.inl (by omega))
  funext g j
  show sC _ _ _ _ g j = (if g = 7 ∧ j = i then v else sC h s (ld h b 4) (ld h b 11) g j)
  rw [nb, nb]
  by_cases hg : g = 7
  · subst hg
    show rng j (ld h b 11) (ld _ (s + 2) j) = (if _ then v else rng j (ld h b 11) (ld h (s + 2) j))
    by_cases hj : j = i
    · subst hj; rw [if_pos ⟨rfl, rfl⟩, rng_in hi, ld_st_eq]
    · rw [if_neg (fun z => hj z.2), ld_st_ne (Or.inr hj)]
  · rw [if_neg (fun z => hg z.1)]
    unfold sC
    split <;> first | rfl | exact absurd rfl hg | (simp only [o 1 (by decide), o 3 (by decide), o 4 (by decide), o 5 (by decide), o 6 (by decide), o0]; done)
theorem Md_u7 (c : CK h s b) {i : Int} (hi : 0 ≤ i ∧ i < ld h b 11) (v : Int) : Md s b h (st h (s + 2) i v) (up2 (sV h s b) 7 i v) := by
  obtain ⟨w, hs, hb, e, -⟩ := id c
  have r := st_b hs
  refine ⟨wf_st w (nfam_at sf_nA hs (by decide) _), rfl, fun a j e1 e2 => ld_st_ne (Or.inl (by omega)), (ld_st_ne (Or.inl (by omega))).trans e, sV_u7 hs hb hi v⟩
theorem sV_u8 (hs : s ∈ STL) (hb : b ∈ BKL) {i : Int} (hi : 0 ≤ i ∧ i < ld h b 11) (v : Int) : sV (st h (s + 3) i v) s b = up2 (sV h s b) 8 i v := by
  have r := st_b hs
  have nb : ∀ k, ld (st h (s + 3) i v) b k = ld h b k := fun k => ld_st_ne (Or.inl (by rcases bk_b hb with rfl | rfl <;> omega))
  have o : ∀ off : Int, off ≠ 3 → ∀ k, ld (st h (s + 3) i v) (s + off) k = ld h (s + off) k := fun off q k => ld_st_ne (Or.inl (by omega))
  have o0 : ∀ k : Int, ld (st h (s + 3) i v) s k = ld h s k := fun k => ld_st_ne (Or.inl (by omega))
  funext g j
  show sC _ _ _ _ g j = (if g = 8 ∧ j = i then v else sC h s (ld h b 4) (ld h b 11) g j)
  rw [nb, nb]
  by_cases hg : g = 8
  · subst hg
    show rng j (ld h b 11) (ld _ (s + 3) j) = (if _ then v else rng j (ld h b 11) (ld h (s + 3) j))
    by_cases hj : j = i
    · subst hj; rw [if_pos ⟨rfl, rfl⟩, rng_in hi, ld_st_eq]
    · rw [if_neg (fun z => hj z.2), ld_st_ne (Or.inr hj)]
  · rw [if_neg (fun z => hg z.1)]
    unfold sC
    split <;> first | rfl | exact absurd rfl hg | (simp only [o 1 (by decide), o 2 (by decide), o 4 (by decide), o 5 (by decide), o 6 (by decide), o0]; done)
theorem Md_u8 (c : CK h s b) {i : Int} (hi : 0 ≤ i ∧ i < ld h b 11) (v : Int) : Md s b h (st h (s + 3) i v) (up2 (sV h s b) 8 i v) := by
  obtain ⟨w, hs, hb, e, -⟩ := id c
  have r := st_b hs
  refine ⟨wf_st w (nfam_at sf_nA hs (by decide) _), rfl, fun a j e1 e2 => ld_st_ne (Or.inl (by omega)), (ld_st_ne (Or.inl (by omega))).trans e, sV_u8 hs hb hi v⟩
theorem sV_u9 (hs : s ∈ STL) (hb : b ∈ BKL) {i : Int} (hi : 0 ≤ i ∧ i < ld h b 11) (v : Int) : sV (st h (s + 4) i v) s b = up2 (sV h s b) 9 i v := by
  have r := st_b hs
  have nb : ∀ k, ld (st h (s + 4) i v) b k = ld h b k := fun k => ld_st_ne (Or.inl (by rcases bk_b hb with rfl | rfl <;> omega))
  have o : ∀ off : Int, off ≠ 4 → ∀ k, ld (st h (s + 4) i v) (s + off) k = ld h (s + off) k := fun off q k => ld_st_ne (Or.inl (by omega))
  have o0 : ∀ k : Int, ld (st h (s + 4) i v) s k = ld h s k := fun k => ld_st_ne (Or.inl (by omega))
  funext g j
  show sC _ _ _ _ g j = (if g = 9 ∧ j = i then v else sC h s (ld h b 4) (ld h b 11) g j)
  rw [nb, nb]
  by_cases hg : g = 9
  · subst hg
    show rng j (ld h b 11) (ld _ (s + 4) j) = (if _ then v else rng j (ld h b 11) (ld h (s + 4) j))
    by_cases hj : j = i
    · subst hj; rw [if_pos ⟨rfl, rfl⟩, rng_in hi, ld_st_eq]
    · rw [if_neg (fun z => hj z.2), ld_st_ne (Or.inr hj)]
  · rw [if_neg (fun z => hg z.1)]
    unfold sC
    split <;> first | rfl | exact absurd rfl hg | (simp only [o 1 (by decide), o 2 (by decide), o 3 (by decide), o 5 (by decide), o 6 (by decide), o0]; done)
theorem Md_u9 (c : CK h s b) {i : Int} (hi : 0 ≤ i ∧ i < ld h b 11) (v : Int) : Md s b h (st h (s + 4) i v) (up2 (sV h s b) 9 i v) := by
  obtain ⟨w, hs, hb, e, -⟩ := id c
  have r := st_b hs
  refine ⟨wf_st w (nfam_at sf_nA hs (by decide) _), rfl, fun a j e1 e2 => ld_st_ne (Or.inl (by omega)), (ld_st_ne (Or.inl (by omega))).trans e, sV_u9 hs hb hi v⟩
theorem Md_own (c : CK h s b) (hk : 0 ≤ ld h s 10 ∧ ld h s 10 < 40) (p x : Int) : Md s b h (st (st (st h (s + 5) (ld h s 10) p) (s + 6) (ld h s 10) x) s 10 (ld h s 10 + 1)) (upc (sV h s b) p x) := by
  obtain ⟨w, hs, hb, e, -⟩ := id c
  have r := st_b hs
  refine ⟨wf_st (wf_st (wf_st w (nfam_at sf_nA hs (by decide) _)) (nfam_at sf_nA hs (by decide) _)) (npt_J (List.all_eq_true.mp (List.all_eq_true.mp sf_nJ s hs) 10 (by decide))), rfl, fun a j e1 e2 => ?_, ?_, ?_⟩
  · exact (ld_st_ne (Or.inl (by omega))).trans ((ld_st_ne (Or.inl (by omega))).trans (ld_st_ne (Or.inl (by omega))))
  · exact (ld_st_ne (Or.inr (by decide))).trans ((ld_st_ne (Or.inl (by omega))).trans ((ld_st_ne (Or.inl (by omega))).trans e))
  generalize hc : ld h s 10 = k at *
  generalize hh : st (st (st h (s + 5) k p) (s + 6) k x) s 10 (k + 1) = h1
  have nb : ∀ j, ld h1 b j = ld h b j := fun j => by
    have : b ≠ s ∧ b ≠ s + 5 ∧ b ≠ s + 6 := by rcases bk_b hb with rfl | rfl <;> omega
    rw [← hh, ld_st_ne (Or.inl this.1), ld_st_ne (Or.inl this.2.2), ld_st_ne (Or.inl this.2.1)]
  have o0 : ∀ j : Int, j ≠ 10 → ld h1 s j = ld h s j := fun j q => by rw [← hh, ld_st_ne (Or.inr q), ld_st_ne (Or.inl (by omega)), ld_st_ne (Or.inl (by omega))]
  have o10 : ld h1 s 10 = k + 1 := by rw [← hh, ld_st_eq]
  have o : ∀ off : Int, 1 ≤ off → off ≤ 4 → ∀ j, ld h1 (s + off) j = ld h (s + off) j := fun off q1 q2 j => by rw [← hh, ld_st_ne (Or.inl (by omega)), ld_st_ne (Or.inl (by omega)), ld_st_ne (Or.inl (by omega))]
  have o5 : ∀ j, ld h1 (s + 5) j = if j = k then p else ld h (s + 5) j := fun j => by
    rw [← hh, ld_st_ne (Or.inl (by omega)), ld_st_ne (Or.inl (by omega)), ld_st]
    by_cases q : j = k
    · rw [if_pos ⟨rfl, q⟩, if_pos q]
    · rw [if_neg (fun z => q z.2), if_neg q]
  have o6 : ∀ j, ld h1 (s + 6) j = if j = k then x else ld h (s + 6) j := fun j => by
    rw [← hh, ld_st_ne (Or.inl (by omega)), ld_st]
    by_cases q : j = k
    · rw [if_pos ⟨rfl, q⟩, if_pos q]
    · rw [if_neg (fun z => q z.2), if_neg q, ld_st_ne (Or.inl (by omega))]
  funext g j
  show sC h1 s (ld h1 b 4) (ld h1 b 11) g j = (if g = 5 then sV h s b 5 0 + 1 else if g = 10 ∧ j = sV h s b 5 0 then p else if g = 11 ∧ j = sV h s b 5 0 then x else sC h s (ld h b 4) (ld h b 11) g j)
  rw [nb, nb, show sV h s b 5 0 = k from hc]
  by_cases g5 : g = 5
  · subst g5; rw [if_pos rfl]; exact o10
  rw [if_neg g5]
  by_cases g10 : g = 10
  · subst g10
    show rng j (ld h1 s 10) (ld h1 (s + 5) j) = (if _ then p else if _ then x else rng j (ld h s 10) (ld h (s + 5) j))
    rw [o10, o5, hc]
    by_cases q : j = k
    · rw [if_pos q, if_pos ⟨rfl, q⟩, rng_in (by omega)]
    · rw [if_neg q, if_neg (fun z => q z.2), if_neg (fun z => by cases z.1)]
      unfold rng
      by_cases q2 : 0 ≤ j ∧ j < k
      · rw [if_pos (by omega), if_pos q2]
      · rw [if_neg (by omega), if_neg q2]
  rw [if_neg (fun z => g10 z.1)]
  by_cases g11 : g = 11
  · subst g11
    show rng j (ld h1 s 10) (ld h1 (s + 6) j) = (if _ then x else rng j (ld h s 10) (ld h (s + 6) j))
    rw [o10, o6, hc]
    by_cases q : j = k
    · rw [if_pos q, if_pos ⟨rfl, q⟩, rng_in (by omega)]
    · rw [if_neg q, if_neg (fun z => q z.2)]
      unfold rng
      by_cases q2 : 0 ≤ j ∧ j < k
      · rw [if_pos (by omega), if_pos q2]
      · rw [if_neg (by omega), if_neg q2]
  rw [if_neg (fun z => g11 z.1)]
  unfold sC
  split <;> first | rfl | exact absurd rfl g5 | exact absurd rfl g10 | exact absurd rfl g11 | (simp only [o 1 (by decide) (by decide), o 2 (by decide) (by decide), o 3 (by decide) (by decide), o 4 (by decide) (by decide), o0 1 (by decide), o0 2 (by decide), o0 3 (by decide), o0 4 (by decide), o0 5 (by decide)]; done)
/-- a piece gets an owner -/
theorem kq_102 (c : CK h s b) (k : SOK (sV h s b)) {p : Int} (hp : 0 ≤ p ∧ p < ld h b 11) {x : Int} (hx : I32 x) (d : Nat) : ∃ h', C d 102 [(2, s), (0, p), (0, x)] h = some ((9, 0), h') ∧ Md s b h h' (sOwn (sV h s b) p x) := by
  obtain ⟨w, hs, hb, e, hT, -⟩ := id c
  obtain ⟨⟨q1, q2⟩, -⟩ := pie_b hT hp
  have m1 := Md_u9 c hp x
  have k1 : SOK (up2 (sV h s b) 9 p x) := SOK_up2 k hx (by decide)
  obtain ⟨c1, t1, s1⟩ := CK_md c m1 k1
  have hch : ld (st h (s + 4) p x) s 10 = sV h s b 5 0 := (congrFun (congrFun s1 5) 0).trans (if_neg (fun z => by cases z.1))
  rw [ce_102, e102_0]
  simp only [sfF0 w hs, sfW0 w hs, sfF1 w hs, sfW1 w hs, sfL1 w hs, sfF2 w hs, sfW2 w hs, sfL2 w hs, sfF3 w hs, sfW3 w hs, sfL3 w hs, sfF4 w hs, sfW4 w hs, sfL4 w hs, sfF5 w hs, sfW5 w hs, sfL5 w hs, sfF6 w hs, sfW6 w hs, sfL6 w hs, sfF7 w hs, sfW7 w hs, sfL7 w hs, sfP6 w hs, sfP7 w hs, sfP8 w hs, sfP9 w hs, sfP11 w hs, sfP12 w hs, sfP13 w hs, if_true, q1, q2, and_self, e102_7]
  generalize hh1 : st h (s + 4) p x = h1 at *
  obtain ⟨w1, -, -, e1, -⟩ := id c1
  have k5 := k.2.1
  unfold sOwn
  by_cases q : sV h s b 5 0 < 40
  · have m2 := Md_own c1 (by rw [hch]; exact ⟨k5, q⟩) p x
    refine ⟨_, ?_, Md_tr m1 (by rw [if_pos q, ← s1]; exact m2)⟩
    have w2 : WF (st h1 (s + 5) (ld h1 s 10) p) := wf_st w1 (nfam_at sf_nA hs (by decide) _)
    have w3 : WF (st (st h1 (s + 5) (ld h1 s 10) p) (s + 6) (ld h1 s 10) x) := wf_st w2 (nfam_at sf_nA hs (by decide) _)
    have r1 : ld (st h1 (s + 5) (ld h1 s 10) p) s 10 = ld h1 s 10 := ld_st_ne (Or.inl (by omega))
    have r2 : ld (st (st h1 (s + 5) (ld h1 s 10) p) (s + 6) (ld h1 s 10) x) s 10 = ld h1 s 10 := (ld_st_ne (Or.inl (by omega))).trans r1
    rw [if_pos (sfF0 w1 hs), if_pos (by rw [hch]; exact q), if_pos (sfF0 w1 hs), if_pos (sfF0 w1 hs), sfP11 w1 hs, if_pos (sfW5 w1 hs), sfL5 w1 hs, if_pos (by rw [hch]; exact ⟨k5, q⟩), e102_26,
      if_pos (sfF0 w2 hs), if_pos (sfF0 w2 hs), sfP12 w2 hs, if_pos (sfW6 w2 hs), sfL6 w2 hs, r1, if_pos (by rw [hch]; exact ⟨k5, q⟩), e102_36, if_pos (sfF0 w3 hs), if_pos (sfW0 w3 hs), r2, e102_46, wk (N := 40) (by rw [hch]; exact k5) (by rw [hch]; exact q) (by decide)]
  · refine ⟨h1, ?_, by rw [if_neg q]; exact m1⟩
    rw [if_pos (sfF0 w1 hs), if_neg (by rw [hch]; exact q), e102_46]
end UP
