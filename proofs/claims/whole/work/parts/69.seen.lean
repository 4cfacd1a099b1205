/-! layer 2: what was seen; the past -/
def askf (kd ab : Int → Int) : Nat → Int × Int × Int → Int × Int × Int
  | 0, A => A
  | n + 1, A => askf kd ab n (if and32 (shr32 A.1 (n : Int)) 1 = 0 then (if kd n = 2 then (or32 A.1 (shl32 1 (ab n)), A.2.1, A.2.2) else if kd n = 1 then (A.1, or32 A.2.1 (shl32 1 (ab n)), A.2.2) else (A.1, A.2.1, or32 A.2.2 (shl32 1 (ab n)))) else A)
def qFit (w u face : Int) : Bool := decide (and32 face w = w) && decide (and32 face u = 0)
theorem P308_0 {h : Hp} (w : WF h) : ld h 308 0 = 309 := wf_pt w (pt_in (by decide +kernel))
theorem P308_1 {h : Hp} (w : WF h) : ld h 308 1 = 310 := wf_pt w (pt_in (by decide +kernel))
theorem P121_0 {h : Hp} (w : WF h) : ld h 121 0 = 122 := wf_pt w (pt_in (by decide +kernel))
theorem n308 (j : Int) (hj : 2 ≤ j ∧ j < 6) : npt 308 j := npt_J (by
  have h6 : j = 2 ∨ j = 3 ∨ j = 4 ∨ j = 5 := by omega
  rcases h6 with rfl | rfl | rfl | rfl <;> decide +kernel)
theorem n121 (j : Int) (hj : 1 ≤ j ∧ j < 3) : npt 121 j := npt_J (by
  have h6 : j = 1 ∨ j = 2 := by omega
  rcases h6 with rfl | rfl <;> decide +kernel)
theorem ring_tb : (List.range 20).all (fun k => PTL.contains (122, (k : Int), 123 + 8 * (k : Int)) && STL.contains (123 + 8 * (k : Int))) = true := by decide +kernel
theorem ring_f {h : Hp} (w : WF h) {k : Int} (hk : 0 ≤ k ∧ k < 20) : ld h 122 k = 123 + 8 * k ∧ 123 + 8 * k ∈ STL := by
  have := List.all_eq_true.mp ring_tb k.toNat (List.mem_range.mpr (by omega))
  rw [show ((k.toNat : Nat) : Int) = k by omega, Bool.and_eq_true] at this
  exact ⟨wf_pt w (pt_in this.1), List.contains_iff_mem.mp this.2⟩
section SE
variable {h : Hp}
theorem kq_126 (w : WF h) (d : Nat) : C d 126 [(2, 308)] h = some ((9, 0), st (st h 308 2 0) 308 3 (-1)) ∧ WF (st (st h 308 2 0) 308 3 (-1)) := by
  have w1 : WF (st h 308 2 0) := wf_st w (n308 2 (by decide))
  refine ⟨?_, wf_st w1 (n308 3 (by decide))⟩
  rw [ce_126, e126_0, if_pos (W_a308 w), if_pos (W_a308 w1), e126_10]
theorem kq_127 (w : WF h) (d : Nat) (kd ab : Int) (hz : 0 ≤ ld h 308 2) : C d 127 [(2, 308), (0, kd), (0, ab)] h = (if ld h 308 2 < 24 then some ((0, ld h 308 2), st (st (st h 309 (ld h 308 2) kd) 310 (ld h 308 2) ab) 308 2 (ld h 308 2 + 1)) else some ((0, -1), h)) ∧ (ld h 308 2 < 24 → WF (st (st (st h 309 (ld h 308 2) kd) 310 (ld h 308 2) ab) 308 2 (ld h 308 2 + 1))) := by
  have w1 : WF (st h 309 (ld h 308 2) kd) := wf_st w (npt_A (by decide +kernel) _)
  have w2 : WF (st (st h 309 (ld h 308 2) kd) 310 (ld h 308 2) ab) := wf_st w1 (npt_A (by decide +kernel) _)
  have w3 : WF (st (st (st h 309 (ld h 308 2) kd) 310 (ld h 308 2) ab) 308 2 (ld h 308 2 + 1)) := wf_st w2 (n308 2 (by decide))
  refine ⟨?_, fun _ => w3⟩
  rw [ce_127, e127_0, if_pos (F_a308 w)]
  by_cases q : ld h 308 2 < 24
  · have r1 : ld (st h 309 (ld h 308 2) kd) 308 2 = ld h 308 2 := ld_st_ne (Or.inl (by decide))
    have r2 : ld (st (st h 309 (ld h 308 2) kd) 310 (ld h 308 2) ab) 308 2 = ld h 308 2 := (ld_st_ne (Or.inl (by decide))).trans r1
    rw [if_pos q, if_pos q, e127_11, if_pos (F_a308 w), if_pos (F_a308 w), P308_0 w, if_pos (W_a309 w), L_a309 w, if_pos ⟨hz, q⟩, e127_21, if_pos (F_a308 w1), if_pos (F_a308 w1), P308_1 w1, if_pos (W_a310 w1), L_a310 w1, r1, if_pos ⟨hz, q⟩, e127_31, if_pos (F_a308 w2), if_pos (W_a308 w2), r2, wk hz q (by decide), e127_41, if_pos (F_a308 w3), ld_st_eq, show w32 (ld h 308 2 + 1 - 1) = ld h 308 2 by unfold w32; omega]
  · rw [if_neg q, if_neg q]
def knC (h : Hp) : Int := if ld h 308 3 = -1 then ld h 308 2 else ld h 308 3
theorem kq_128 (w : WF h) (d : Nat) : C d 128 [(2, 308)] h = some ((0, knC h), h) := by
  rw [ce_128, e128_0, if_pos (F_a308 w)]
  unfold knC
  by_cases q : ld h 308 3 = -1
  · rw [if_pos q, if_pos q, if_pos (F_a308 w), e128_19]
  · rw [if_neg q, if_neg q, e128_15, if_pos (F_a308 w), e128_19]
theorem kq_129 (w : WF h) (d : Nat) (hk : 0 ≤ knC h ∧ knC h ≤ 24) : ∃ h', C (d + 1) 129 [(2, 308)] h = some ((9, 0), h') ∧ WF h' ∧ h'.2 = h.2 ∧ (∀ a j, ¬ (a = 308 ∧ (j = 4 ∨ j = 5)) → ld h' a j = ld h a j) ∧ ld h' 308 4 = (askf (fun k => ld h 309 k) (fun k => ld h 310 k) (knC h).toNat (0, 0, 0)).2.1 ∧ ld h' 308 5 = (askf (fun k => ld h 309 k) (fun k => ld h 310 k) (knC h).toNat (0, 0, 0)).2.2 := by
  have key : ∀ (n : Nat) (A : Int × Int × Int) (h1 : Hp), n ≤ 24 → WF h1 → h1.2 = h.2 → (∀ a j, ¬ (a = 308 ∧ (j = 4 ∨ j = 5)) → ld h1 a j = ld h a j) → ld h1 308 4 = A.2.1 → ld h1 308 5 = A.2.2 →
      ∃ h', V (d + 1) 129 24 [(2, 308), (0, A.1), (0, (n : Int) - 1)] [] h1 = some ((9, 0), h') ∧ WF h' ∧ h'.2 = h.2 ∧ (∀ a j, ¬ (a = 308 ∧ (j = 4 ∨ j = 5)) → ld h' a j = ld h a j) ∧ ld h' 308 4 = (askf (fun k => ld h 309 k) (fun k => ld h 310 k) n A).2.1 ∧ ld h' 308 5 = (askf (fun k => ld h 309 k) (fun k => ld h 310 k) n A).2.2 := by
    intro n
    induction n with
    | zero => intro A h1 _ w1 q1 f1 g4 g5; exact ⟨h1, by rw [e129_24, if_pos (by omega), e129_116], w1, q1, f1, g4, g5⟩
    | succ n ih =>
      intro A h1 hn w1 q1 f1 g4 g5
      have wn : True → w32 ((n : Int) + -1) = (n : Int) - 1 := fun _ => by unfold w32; omega
      have d9 : ld h1 309 n = ld h 309 n := f1 _ _ (by omega)
      have d10 : ld h1 310 n = ld h 310 n := f1 _ _ (by omega)
      have hn24 : 0 ≤ (n : Int) ∧ (n : Int) < 24 := by omega
      rw [e129_24, if_neg (by omega), show ((n + 1 : Nat) : Int) - 1 = (n : Int) by omega]
      show ∃ h', _ ∧ _ ∧ _ ∧ _ ∧ ld h' 308 4 = (askf _ _ n (if and32 (shr32 A.1 (n : Int)) 1 = 0 then (if ld h 309 n = 2 then (or32 A.1 (shl32 1 (ld h 310 n)), A.2.1, A.2.2) else if ld h 309 n = 1 then (A.1, or32 A.2.1 (shl32 1 (ld h 310 n)), A.2.2) else (A.1, A.2.1, or32 A.2.2 (shl32 1 (ld h 310 n)))) else A)).2.1 ∧ ld h' 308 5 = (askf _ _ n (if and32 (shr32 A.1 (n : Int)) 1 = 0 then (if ld h 309 n = 2 then (or32 A.1 (shl32 1 (ld h 310 n)), A.2.1, A.2.2) else if ld h 309 n = 1 then (A.1, or32 A.2.1 (shl32 1 (ld h 310 n)), A.2.2) else (A.1, A.2.1, or32 A.2.2 (shl32 1 (ld h 310 n)))) else A)).2.2
      by_cases x0 : and32 (shr32 A.1 (n : Int)) 1 = 0
      · rw [if_pos x0, if_pos x0, e129_39, if_pos (F_a308 w1), P308_0 w1, if_pos (F_a309 w1), L_a309 w1, if_pos hn24, d9]
        by_cases x2 : ld h 309 n = 2
        · rw [if_pos x2, if_pos x2, e129_49, if_pos (F_a308 w1), P308_1 w1, if_pos (F_a310 w1), L_a310 w1, if_pos hn24, d10, e129_60, e129_110, wn trivial]
          exact ih (or32 A.1 (shl32 1 (ld h 310 n)), A.2.1, A.2.2) h1 (by omega) w1 q1 f1 g4 g5
        · rw [if_neg x2, if_neg x2, e129_63, if_pos (F_a308 w1), P308_0 w1, if_pos (F_a309 w1), L_a309 w1, if_pos hn24, d9]
          by_cases x3 : ld h 309 n = 1
          · rw [if_pos x3, if_pos x3, e129_73, if_pos (F_a308 w1), if_pos (F_a308 w1), P308_1 w1, if_pos (F_a310 w1), L_a310 w1, if_pos hn24, if_pos (W_a308 w1), d10, e129_90, e129_110, wn trivial, g4]
            exact ih (A.1, or32 A.2.1 (shl32 1 (ld h 310 n)), A.2.2) (st h1 308 4 _) (by omega) (wf_st w1 (n308 4 (by decide))) q1 (fun a j e => (ld_st_ne (by omega)).trans (f1 a j e)) (ld_st_eq _ _ _ _) ((ld_st_ne (Or.inr (by decide))).trans g5)
          · rw [if_neg x3, if_neg x3, e129_93, if_pos (F_a308 w1), if_pos (F_a308 w1), P308_1 w1, if_pos (F_a310 w1), L_a310 w1, if_pos hn24, if_pos (W_a308 w1), d10, e129_110, wn trivial, g5]
            exact ih (A.1, A.2.1, or32 A.2.2 (shl32 1 (ld h 310 n))) (st h1 308 5 _) (by omega) (wf_st w1 (n308 5 (by decide))) q1 (fun a j e => (ld_st_ne (by omega)).trans (f1 a j e)) ((ld_st_ne (Or.inr (by decide))).trans g4) (ld_st_eq _ _ _ _)
      · rw [if_neg x0, if_neg x0, e129_36, e129_110, wn trivial]
        exact ih A h1 (by omega) w1 q1 f1 g4 g5
  have w1 : WF (st h 308 4 0) := wf_st w (n308 4 (by decide))
  have w2 : WF (st (st h 308 4 0) 308 5 0) := wf_st w1 (n308 5 (by decide))
  have hkn : knC (st (st h 308 4 0) 308 5 0) = knC h := by
    unfold knC
    have r2 : ld (st (st h 308 4 0) 308 5 0) 308 2 = ld h 308 2 := by rw [ld_st_ne (Or.inr (by decide)), ld_st_ne (Or.inr (by decide))]
    have r3 : ld (st (st h 308 4 0) 308 5 0) 308 3 = ld h 308 3 := by rw [ld_st_ne (Or.inr (by decide)), ld_st_ne (Or.inr (by decide))]
    rw [r2, r3]
  have := key (knC h).toNat (0, 0, 0) (st (st h 308 4 0) 308 5 0) (by omega) w2 rfl (fun a j e => (ld_st_ne (by omega)).trans (ld_st_ne (by omega))) ((ld_st_ne (Or.inr (by decide))).trans (ld_st_eq _ _ _ _)) (ld_st_eq _ _ _ _)
  rw [ce_129, e129_0, if_pos (W_a308 w), if_pos (W_a308 w1), e129_10, if_pos (F_a308 w2), Cl_eq _ (kq_128 w2 d), Cl_eq _ (min245 d _ _), hkn, show imin (knC h) 24 = knC h by unfold imin; rw [if_neg (by omega)], show w32 (knC h - 1) = (((knC h).toNat : Nat) : Int) - 1 by unfold w32; omega]
  exact this
theorem kq_130 (w : WF h) (d : Nat) (face : Int) : C d 130 [(2, 308), (0, face)] h = some ((0, bI (qFit (ld h 308 4) (ld h 308 5) face)), h) := by
  rw [ce_130, e130_0, if_pos (F_a308 w), if_pos (F_a308 w), e130_13, if_pos (F_a308 w)]
  unfold qFit
  simp only [e130_22, e130_26, e130_27, true_or, or_true, if_true]
  by_cases q1 : and32 face (ld h 308 4) = ld h 308 4 <;> by_cases q2 : and32 face (ld h 308 5) = 0 <;> simp [q1, q2, bI]
theorem kq_132 (w : WF h) (d : Nat) : C d 132 [(2, 121)] h = some ((9, 0), st h 121 2 0) ∧ WF (st h 121 2 0) := by
  refine ⟨?_, wf_st w (n121 2 (by decide))⟩
  rw [ce_132, e132_0, if_pos (W_a121 w)]
/-! the past: a ring of twenty -/
def rix (f i : Int) : Int := Int.tmod (f + i) 20
theorem rix_b {f i : Int} (hf : 0 ≤ f ∧ f < 20) (hi : 0 ≤ i ∧ i ≤ 20) : 0 ≤ rix f i ∧ rix f i < 20 := by
  unfold rix
  rw [Int.tmod_eq_emod_of_nonneg (by omega)]
  omega
/-- as Md, the past's own cells aside -/
def Mp (s b : Int) (h h' : Hp) (S' : Wd) : Prop := WF h' ∧ h'.2 = h.2 ∧ (∀ a j : Int, scr a = false → ¬ (s ≤ a ∧ a ≤ s + 6) → ¬ a = 121 → h'.1 a j = h.1 a j) ∧ ld h' s 0 = b ∧ sV h' s b = S'
theorem st_121 {t : Int} (ht : t ∈ STL) : t + 7 < 121 ∨ 122 < t := by
  have := of_decide_eq_true (List.all_eq_true.mp (show STL.all (fun t => decide (t + 7 < 121 ∨ 122 < t)) = true by decide +kernel) t ht)
  exact this
theorem st121 {b s j v : Int} (c : CK h s b) (hj : 1 ≤ j ∧ j < 3) : CK (st h 121 j v) s b ∧ tC (st h 121 j v) b = tC h b ∧ sV (st h 121 j v) s b = sV h s b := by
  obtain ⟨w, hs, hb, -⟩ := id c
  have r := st_121 hs
  have eb : EqB h (st h 121 j v) b := fun i h0 h1 _ _ _ k => ld_st_ne (Or.inl (by rcases bk_b hb with rfl | rfl <;> omega))
  have es : EqS h (st h 121 j v) s := fun i h0 h1 k => ld_st_ne (Or.inl (by omega))
  exact ⟨CK_eq c (wf_st w (n121 j hj)) eb es, tC_eq eb, sV_eq eb es⟩
theorem Mp_st {b s j v : Int} (c : CK h s b) (hj : 1 ≤ j ∧ j < 3) : Mp s b h (st h 121 j v) (sV h s b) := by
  obtain ⟨c1, t1, s1⟩ := st121 (v := v) c hj
  exact ⟨c1.1, rfl, fun a i _ _ e => ld_st_ne (Or.inl e), c1.2.2.2.1, s1⟩
def pf1 (h : Hp) : Int := if ld h 121 2 = 20 then Int.tmod (ld h 121 1 + 1) 20 else ld h 121 1
def pz1 (h : Hp) : Int := if ld h 121 2 = 20 then 19 else ld h 121 2
theorem kq_133 {s b : Int} (c : CK h s b) (k0 : SOK (sV h s b)) (hs : s < 121) (hf : 0 ≤ ld h 121 1 ∧ ld h 121 1 < 20) (hz : 0 ≤ ld h 121 2 ∧ ld h 121 2 ≤ 20) (d : Nat) :
    ∃ h', C (d + 1) 133 [(2, 121), (2, s)] h = some ((9, 0), h') ∧ Mp (123 + 8 * rix (pf1 h) (pz1 h)) b h h' (sV h s b) ∧ ld h' 121 1 = pf1 h ∧ ld h' 121 2 = pz1 h + 1 := by
  obtain ⟨w, hsl, hb, e, -⟩ := id c
  have fin : ∀ (h1 : Hp) (f z : Int), CK h1 s b → sV h1 s b = sV h s b → h1.2 = h.2 → (∀ a j, ¬ a = 121 → ld h1 a j = ld h a j) → ld h1 121 1 = f → ld h1 121 2 = z → (0 ≤ f ∧ f < 20) → (0 ≤ z ∧ z < 20) → ∃ h', V (d + 1) 133 32 [(2, 121), (2, s)] [] h1 = some ((9, 0), h') ∧ Mp (123 + 8 * rix f z) b h h' (sV h s b) ∧ ld h' 121 1 = f ∧ ld h' 121 2 = z + 1 := by
    intro h1 f z c1 s1 q1 f1 g1 g2 hf hz
    obtain ⟨w1, -⟩ := id c1
    have rb := rix_b hf (i := z) (by omega)
    obtain ⟨r1, r2⟩ := ring_f w1 rb
    have hw : True → Int.tmod (w32 (f + z)) 20 = rix f z := fun _ => by rw [show w32 (f + z) = f + z by unfold w32; omega]; rfl
    obtain ⟨h2, a2, m2⟩ := kq_86 (s := 123 + 8 * rix f z) c1 (by rw [s1]; exact k0) r2 (by omega) d
    rw [s1] at m2
    have w2 := m2.1
    have g21 : ld h2 121 1 = f := (m2.2.2.1 121 1 (by decide +kernel) (by omega)).trans g1
    have g22 : ld h2 121 2 = z := (m2.2.2.1 121 2 (by decide +kernel) (by omega)).trans g2
    refine ⟨st h2 121 2 (z + 1), ?_, ⟨wf_st w2 (n121 2 (by decide)), m2.2.1.trans q1, fun a j e1 e2 e3 => ?_, ?_, ?_⟩, ?_, ld_st_eq _ _ _ _⟩
    · rw [e133_32, if_pos (F_a121 w1), if_pos (F_a121 w1), if_pos (F_a121 w1), if_neg (by decide), g1, g2, hw trivial, P121_0 w1, if_pos (F_a122 w1), L_a122 w1, if_pos rb, r1, if_pos (sfF0 w1 r2), Cl_eq _ a2, e133_53, if_pos (F_a121 w2), if_pos (W_a121 w2), g22, wk hz.1 hz.2 (by decide), e133_63]
    · exact (ld_st_ne (Or.inl e3)).trans ((m2.2.2.1 a j e1 e2).trans (f1 a j e3))
    · exact (ld_st_ne (Or.inl (by omega))).trans m2.2.2.2.1
    · have r := st_121 r2
      have eb : EqB h2 (st h2 121 2 (z + 1)) b := fun i h0 h1 _ _ _ k => ld_st_ne (Or.inl (by rcases bk_b hb with rfl | rfl <;> omega))
      have es : EqS h2 (st h2 121 2 (z + 1)) (123 + 8 * rix f z) := fun i h0 h1 k => ld_st_ne (Or.inl (by omega))
      exact (sV_eq eb es).trans m2.2.2.2.2
    · exact (ld_st_ne (Or.inr (by decide))).trans g21
  rw [ce_133, e133_0, if_pos (F_a121 w)]
  unfold pf1 pz1
  by_cases q : ld h 121 2 = 20
  · have t1 : 0 ≤ Int.tmod (ld h 121 1 + 1) 20 ∧ Int.tmod (ld h 121 1 + 1) 20 < 20 := by rw [Int.tmod_eq_emod_of_nonneg (by omega)]; omega
    obtain ⟨c1, -, s1⟩ := st121 (v := Int.tmod (ld h 121 1 + 1) 20) c (j := 1) (by decide)
    obtain ⟨c2, -, s2⟩ := st121 (v := 19) c1 (j := 2) (by decide)
    have w1 := c1.1
    have r2 : ld (st h 121 1 (Int.tmod (ld h 121 1 + 1) 20)) 121 2 = 20 := (ld_st_ne (Or.inr (by decide))).trans q
    rw [if_pos q, if_pos q, if_pos q, if_pos (F_a121 w), if_neg (by decide), if_pos (W_a121 w), show w32 (ld h 121 1 + 1) = ld h 121 1 + 1 by unfold w32; omega, e133_22, if_pos (F_a121 w1), if_pos (W_a121 w1), r2, show w32 (20 - 1) = 19 from rfl]
    exact fin _ _ _ c2 (s2.trans s1) rfl (fun a j e => (ld_st_ne (Or.inl e)).trans (ld_st_ne (Or.inl e))) ((ld_st_ne (Or.inr (by decide))).trans (ld_st_eq _ _ _ _)) (ld_st_eq _ _ _ _) t1 (by decide)
  · rw [if_neg q, if_neg q, if_neg q]
    exact fin h _ _ c rfl rfl (fun _ _ _ => rfl) rfl rfl hf (by omega)
theorem kq_134 {s b : Int} (hs : s ∈ STL) (hs2 : s < 121) (hf : 0 ≤ ld h 121 1 ∧ ld h 121 1 < 20) (hz : 1 ≤ ld h 121 2 ∧ ld h 121 2 ≤ 20) (c : CK h (123 + 8 * rix (ld h 121 1) (ld h 121 2 - 1)) b) (k0 : SOK (sV h (123 + 8 * rix (ld h 121 1) (ld h 121 2 - 1)) b)) (d : Nat) :
    ∃ h', C (d + 1) 134 [(2, 121), (2, s)] h = some ((0, ld h 121 2 - 1), h') ∧ Mp s b h h' (sV h (123 + 8 * rix (ld h 121 1) (ld h 121 2 - 1)) b) ∧ ld h' 121 1 = ld h 121 1 ∧ ld h' 121 2 = ld h 121 2 - 1 := by
  obtain ⟨w, -⟩ := id c
  obtain ⟨c1, -, s1⟩ := st121 (v := ld h 121 2 - 1) c (j := 2) (by decide)
  have w1 := c1.1
  have rb := rix_b hf (i := ld h 121 2 - 1) (by omega)
  obtain ⟨r1, r2⟩ := ring_f w1 rb
  obtain ⟨h2, a2, m2⟩ := kq_86 (s := s) c1 (by rw [s1]; exact k0) hs (by omega) d
  rw [s1] at m2
  have w2 := m2.1
  have r := st_121 hs
  have g1 : ld (st h 121 2 (ld h 121 2 - 1)) 121 1 = ld h 121 1 := ld_st_ne (Or.inr (by decide))
  have g2 : ld (st h 121 2 (ld h 121 2 - 1)) 121 2 = ld h 121 2 - 1 := ld_st_eq _ _ _ _
  have g21 : ld h2 121 1 = ld h 121 1 := (m2.2.2.1 121 1 (by decide +kernel) (by omega)).trans g1
  have g22 : ld h2 121 2 = ld h 121 2 - 1 := (m2.2.2.1 121 2 (by decide +kernel) (by omega)).trans g2
  have hw : True → Int.tmod (w32 (ld h 121 1 + (ld h 121 2 - 1))) 20 = rix (ld h 121 1) (ld h 121 2 - 1) := fun _ => by rw [show w32 (ld h 121 1 + (ld h 121 2 - 1)) = ld h 121 1 + (ld h 121 2 - 1) by unfold w32; omega]; rfl
  refine ⟨h2, ?_, ⟨w2, m2.2.1, fun a j e1 e2 e3 => (m2.2.2.1 a j e1 e2).trans (ld_st_ne (Or.inl e3)), m2.2.2.2⟩, g21, g22⟩
  rw [ce_134, e134_0, if_pos (F_a121 w), if_neg (by omega), e134_9, if_pos (F_a121 w), if_pos (W_a121 w), show w32 (ld h 121 2 - 1) = ld h 121 2 - 1 by unfold w32; omega, e134_19, if_pos (F_a121 w1), if_pos (F_a121 w1), if_pos (F_a121 w1), if_neg (by decide), g1, g2, hw trivial, P121_0 w1, if_pos (F_a122 w1), L_a122 w1, if_pos rb, if_pos (sfF0 w1 hs), r1, Cl_eq _ a2, e134_40, if_pos (F_a121 w2), g22]
theorem kq_134z {s : Int} (w : WF h) (hz : ld h 121 2 = 0) (d : Nat) : C d 134 [(2, 121), (2, s)] h = some ((0, -1), h) := by
  rw [ce_134, e134_0, if_pos (F_a121 w), if_pos hz]
/-! who owned a piece before -/
def owb (S : Wd) (p skip : Int) : Nat → Int → Int → Int
  | 0, _, _ => -2
  | n + 1, k, m => if S 10 k = p then (if m = skip then S 11 k else owb S p skip n (k + 1) (m + 1)) else owb S p skip n (k + 1) m
def sOwb (S : Wd) (p skip : Int) : Int := owb S p skip (S 5 0).toNat 0 0
theorem kq_103 {s b : Int} (c : CK h s b) (k0 : SOK (sV h s b)) (p skip : Int) (d : Nat) : C d 103 [(2, s), (0, p), (0, skip)] h = some ((0, sOwb (sV h s b) p skip), h) := by
  obtain ⟨w, hs, hb, e, hT, -⟩ := id c
  have h5 : 0 ≤ ld h s 10 ∧ ld h s 10 ≤ 40 := ⟨k0.2.1, k0.2.2.1⟩
  have key : ∀ (n : Nat) (k m : Int), 0 ≤ k → k + n = ld h s 10 → 0 ≤ m → m ≤ k → V d 103 5 [(2, s), (0, p), (0, skip), (0, m), (0, k)] [] h = some ((0, owb (sV h s b) p skip n k m), h) := by
    intro n
    induction n with
    | zero => intro k m hk hn h0 h1; rw [e103_5, if_pos (sfF0 w hs), if_neg (by omega), e103_54]; rfl
    | succ n ih =>
      intro k m hk hn h0 h1
      have k40 : 0 ≤ k ∧ k < 40 := by omega
      have hkn : 0 ≤ k ∧ k < ld h s 10 := by omega
      have a10 : ld h (s + 5) k = sV h s b 10 k := (rng_in hkn).symm
      have a11 : ld h (s + 6) k = sV h s b 11 k := (rng_in hkn).symm
      have wk1 : True → w32 (k + 1) = k + 1 := fun _ => wk k40.1 k40.2 (by decide)
      have wm1 : True → w32 (m + 1) = m + 1 := fun _ => wk h0 (show m < 40 by omega) (by decide)
      rw [e103_5, if_pos (sfF0 w hs), if_pos hkn.2, if_pos k40.2, e103_21, if_pos (sfF0 w hs), sfP11 w hs, if_pos (sfF5 w hs), sfL5 w hs, if_pos k40, a10]
      unfold owb
      by_cases q : sV h s b 10 k = p
      · rw [if_pos q, if_pos q, e103_32]
        by_cases q2 : m = skip
        · rw [if_pos q2, if_pos q2, if_pos (sfF0 w hs), sfP12 w hs, if_pos (sfF6 w hs), sfL6 w hs, if_pos k40, a11]
        · rw [if_neg q2, if_neg q2, e103_45, e103_48, wk1 trivial, wm1 trivial]
          exact ih (k + 1) (m + 1) (by omega) (by omega) (by omega) (by omega)
      · rw [if_neg q, if_neg q, e103_48, wk1 trivial]
        exact ih (k + 1) m (by omega) (by omega) h0 (by omega)
  rw [ce_103, e103_0, key (ld h s 10).toNat 0 0 (by decide) (by omega) (by decide) (by decide)]
  rfl
end SE
