/-! layer 2: the plain program expects a number, a name -/
section EX2
variable {h h' : Hp} {tp : Int → Int} {n pl : Int} {T : Wd} {tw hl kn op ln : Int}
/-- the heap after a fault k at pl -/
def flt (h : Hp) (k pl : Int) : Hp := st (st h 311 30 k) 311 31 pl
theorem rk_145p (p : PP h tp n pl) (x : Int) (d : Nat) : C d 145 [(2, 311), (0, x)] h = some ((9, 0), flt h x pl) := by
  rw [rk_145 p.1.1 d, if_pos p.2.2.2.1, p.2.1]; rfl
theorem flt_w (w : WF h) (k p : Int) : WF (flt h k p) := wf_st (wf_st w n311_30) n311_31
theorem flt_30 (h : Hp) (k p : Int) : ld (flt h k p) 311 30 = k := (ld_st_ne (Or.inr (by decide))).trans (ld_st_eq _ _ _ _)
theorem flt_31 (h : Hp) (k p : Int) : ld (flt h k p) 311 31 = p := ld_st_eq _ _ _ _
theorem flt_F (w : WF h) (k p : Int) : FrX h (flt h k p) := ⟨flt_w w k p, rfl, fun a j e1 _ => (ld_st_ne (by omega)).trans (ld_st_ne (by omega))⟩
theorem so_2 {t so va : Int} (l : LSx tp n pl t so va) : so = 2 ↔ t = -4 := by
  unfold LSx at l; omega
theorem so_1 {t so va : Int} (l : LSx tp n pl t so va) : so = 1 ↔ t = -3 := by
  unfold LSx at l; omega
theorem va_2 {t so va : Int} (l : LSx tp n pl t so va) (e : t = -4) : imin 10000 va = wN tp n pl ∧ 0 ≤ va := by
  unfold LSx at l
  rcases l with q | q | q | q | q | q <;> first | exact q.2.2 | (exfalso; omega)
theorem va_1 {t so va : Int} (l : LSx tp n pl t so va) (e : t = -3) : va = wL tp n pl := by
  unfold LSx at l
  rcases l with q | q | q | q | q | q <;> first | exact q.2.2 | (exfalso; omega)
theorem rk_149 (p : PP h tp n pl) {lo hi : Int} (hlo : 0 ≤ lo ∧ lo ≤ hi) (hhi : hi ≤ 9999) (d : Nat) : (nck tp n pl lo hi = 0 → ∃ h', C (d + 6) 149 [(2, 311), (0, lo), (0, hi)] h = some ((0, wN tp n pl), h') ∧ FrL h h' ∧ PP h' tp n (adv tp n pl) ∧ (lo ≤ wN tp n pl ∧ wN tp n pl ≤ hi)) ∧ (¬ nck tp n pl lo hi = 0 → C (d + 6) 149 [(2, 311), (0, lo), (0, hi)] h = some ((0, lo), flt h (nck tp n pl lo hi) pl)) := by
  have w := p.1.1
  have e30 := p.2.2.2.1
  have l := p.2.2.1
  have s2 := so_2 l
  have v2 := va_2 l
  have e0 : C (d + 6) 149 [(2, 311), (0, lo), (0, hi)] h = V (d + 6) 149 9 [(2, 311), (0, lo), (0, hi), (9, 0)] [] h := by
    rw [ce_149, e149_0, if_pos (F_a311 w), e30, if_pos rfl]
  have fl : ∀ k, ¬ k = 0 → V (d + 6) 149 46 [(2, 311), (0, lo), (9, 0), (9, 0)] [] (flt h k pl) = some ((0, lo), flt h k pl) := fun k hk => by
    rw [e149_46, if_pos (F_a311 (flt_w w k pl)), flt_30, if_neg hk]
  unfold nck
  by_cases q : tkn tp n pl = -4
  · obtain ⟨v3, v4⟩ := v2 q
    rw [if_pos q, e0, e149_9, if_pos (F_a311 w), if_pos (s2.mpr q), e149_25, if_pos (F_a311 w)]
    have hv : ld h 311 29 < lo ↔ wN tp n pl < lo := by
      rw [← v3]; unfold imin; split <;> omega
    by_cases q1 : ld h 311 29 < lo
    · rw [if_pos q1, if_pos (Or.inl (hv.mp q1))]
      exact ⟨fun u => absurd u (by decide), fun _ => by rw [e149_41, if_pos (F_a311 w), Cl_eq _ (rk_145p p 2 (d + 5)), fl 2 (by decide)]⟩
    · have nl : ¬ wN tp n pl < lo := fun u => q1 (hv.mpr u)
      rw [if_neg q1, if_pos (F_a311 w)]
      by_cases q2 : hi < ld h 311 29
      · have hi' : hi < wN tp n pl := by rw [← v3]; unfold imin; split <;> omega
        rw [if_pos q2, if_pos (Or.inr hi')]
        exact ⟨fun u => absurd u (by decide), fun _ => by rw [e149_41, if_pos (F_a311 w), Cl_eq _ (rk_145p p 2 (d + 5)), fl 2 (by decide)]⟩
      · have ev : ld h 311 29 = wN tp n pl := by rw [← v3]; unfold imin; split <;> omega
        obtain ⟨h', a1, f1, p1⟩ := PP_adv p d
        rw [if_neg q2, if_neg (by omega)]
        refine ⟨fun _ => ⟨h', ?_, f1, p1, by omega⟩, fun u => absurd rfl u⟩
        rw [e149_46, if_pos (F_a311 w), e30, if_pos rfl, e149_55, if_pos (F_a311 w), if_pos (F_a311 w), Cl_eq _ a1, ev, e149_64]
  · rw [if_neg q, e0, e149_9, if_pos (F_a311 w), if_neg (fun u => q (s2.mp u))]
    exact ⟨fun u => absurd u (by decide), fun _ => by rw [if_pos (F_a311 w), Cl_eq _ (rk_145p p 1 (d + 5)), e149_22, fl 1 (by decide)]⟩
theorem fnd_feat (p : PR h tp n pl T tw hl kn op ln) (y : Int) : fnd (fun k => decide (ld h 314 (5 + k) = y)) (T 0 0).toNat 0 = tFeat T y := by
  have r := p.2.2.2.2.2.1
  have t0 := r.K.1
  unfold tFeat
  refine fnd_cong _ _ (fun i i0 i1 => ?_)
  have := rt4 r (i := i) ⟨i0, by omega⟩
  rw [shf_in _ ⟨by decide, by decide⟩, show i + hfA 314 = 5 + i by rw [show hfA 314 = 5 by decide]; omega] at this
  rw [this]
theorem fnd_sitr (p : PR h tp n pl T tw hl kn op ln) (y : Int) : fnd (fun k => decide (ld h 317 (5 + k) = y)) (T 1 0).toNat 0 = tSitr T y := by
  have r := p.2.2.2.2.2.1
  have t0 := r.K.2.1
  unfold tSitr
  refine fnd_cong _ _ (fun i i0 i1 => ?_)
  have := rt7 r (i := i) ⟨i0, by omega⟩
  rw [shf_in _ ⟨by decide, by decide⟩, show i + hfA 317 = 5 + i by rw [show hfA 317 = 5 by decide]; omega] at this
  rw [this]
theorem PR_c0 (p : PR h tp n pl T tw hl kn op ln) : ld h 313 7 = T 0 0 ∧ ld h 313 8 = T 1 0 ∧ ld h 313 9 = T 2 0 ∧ ld h 313 10 = T 3 0 := by
  have r := p.2.2.2.2.2.1
  have a := rt0 r
  have b := rt1 r
  have c := rt2 r
  have e := rt3 r
  rw [shf_in _ ⟨by decide, by decide⟩] at a b c e
  exact ⟨a, b, c, e⟩
/-- a name that must be new -/
theorem rk_151 (p : PP h tp n pl) {x m : Int} {g : Int → Int} (hf : okF h x 0 = true) (hlen : len h x = 10) (hm : 0 ≤ m ∧ m ≤ 5) (hg : ∀ y, fnd (fun k => decide (ld h x (5 + k) = y)) m.toNat 0 = g y) (d : Nat) : (tkn tp n pl = -3 → g (wL tp n pl) = -1 → ∃ h', C (d + 6) 151 [(2, 311), (2, x), (0, 5), (0, m)] h = some ((0, wL tp n pl), h') ∧ FrL h h' ∧ PP h' tp n (adv tp n pl)) ∧ (¬ (tkn tp n pl = -3 ∧ g (wL tp n pl) = -1) → C (d + 6) 151 [(2, 311), (2, x), (0, 5), (0, m)] h = some ((0, 0), flt h (if tkn tp n pl = -3 then 3 else 1) pl)) := by
  have w := p.1.1
  have e30 := p.2.2.2.1
  have l := p.2.2.1
  have s1 := so_1 l
  have v1 := va_1 l
  have e0 : C (d + 6) 151 [(2, 311), (2, x), (0, 5), (0, m)] h = V (d + 6) 151 9 [(2, 311), (2, x), (0, 5), (0, m), (9, 0)] [] h := by
    rw [ce_151, e151_0, if_pos (F_a311 w), e30, if_pos rfl]
  have fl : ∀ k, ¬ k = 0 → V (d + 6) 151 44 [(2, 311), (9, 0), (9, 0), (9, 0), (9, 0)] [] (flt h k pl) = some ((0, 0), flt h k pl) := fun k hk => by
    rw [e151_44, if_pos (F_a311 (flt_w w k pl)), flt_30, if_neg hk]
  rw [e0]
  by_cases q : tkn tp n pl = -3
  · have r150 := rk_150 (y := ld h 311 29) (f := 5) hf hlen (by decide) hm (d + 5)
    rw [hg, v1 q] at r150
    rw [e151_9, if_pos (F_a311 w), if_pos (s1.mpr q), e151_25, if_pos (F_a311 w), v1 q, Cl_eq _ r150]
    by_cases q2 : g (wL tp n pl) = -1
    · obtain ⟨h', a1, f1, p1⟩ := PP_adv p d
      rw [if_pos q2]
      refine ⟨fun _ _ => ⟨h', ?_, f1, p1⟩, fun u => absurd ⟨q, q2⟩ u⟩
      rw [e151_44, if_pos (F_a311 w), e30, if_pos rfl, e151_53, if_pos (F_a311 w), if_pos (F_a311 w), v1 q, Cl_eq _ a1, e151_63]
    · rw [if_neg q2]
      exact ⟨fun _ u => absurd u q2, fun _ => by rw [e151_39, if_pos (F_a311 w), Cl_eq _ (rk_145p p 3 (d + 5)), fl 3 (by decide), if_pos q]⟩
  · rw [e151_9, if_pos (F_a311 w), if_neg (fun u => q (s1.mp u)), if_pos (F_a311 w), Cl_eq _ (rk_145p p 1 (d + 5)), e151_22, fl 1 (by decide), if_neg q]
    exact ⟨fun u => absurd u q, fun _ => rfl⟩
/-- a name that must be known -/
theorem rk_152 (p : PP h tp n pl) {x m : Int} {g : Int → Int} (hf : okF h x 0 = true) (hlen : len h x = 10) (hm : 0 ≤ m ∧ m ≤ 5) (hg : ∀ y, fnd (fun k => decide (ld h x (5 + k) = y)) m.toNat 0 = g y) (d : Nat) : C (d + 2) 152 [(2, 311), (2, x), (0, 5), (0, m)] h = if nxk (tkn tp n pl) (g (wL tp n pl)) = 0 then some ((0, g (wL tp n pl)), h) else some ((0, 0), flt h (nxk (tkn tp n pl) (g (wL tp n pl))) pl) := by
  have w := p.1.1
  have e30 := p.2.2.2.1
  have l := p.2.2.1
  have s1 := so_1 l
  have v1 := va_1 l
  have e0 : C (d + 2) 152 [(2, 311), (2, x), (0, 5), (0, m)] h = V (d + 2) 152 9 [(2, 311), (2, x), (0, 5), (0, m)] [] h := by
    rw [ce_152, e152_0, if_pos (F_a311 w), e30, if_pos rfl]
  have fl : ∀ k, ¬ k = 0 → V (d + 2) 152 44 [(2, 311), (2, x), (0, 5), (0, m)] [] (flt h k pl) = some ((0, 0), flt h k pl) := fun k hk => by
    rw [e152_44, if_pos (F_a311 (flt_w w k pl)), flt_30, if_neg hk, e152_65]
  rw [e0]
  unfold nxk
  by_cases q : tkn tp n pl = -3
  · have r150 := rk_150 (y := ld h 311 29) (f := 5) hf hlen (by decide) hm (d + 1)
    rw [hg, v1 q] at r150
    rw [if_pos q, e152_9, if_pos (F_a311 w), if_pos (s1.mpr q), e152_25, if_pos (F_a311 w), v1 q, Cl_eq _ r150]
    by_cases q2 : g (wL tp n pl) = -1
    · rw [if_pos q2, if_pos q2, if_neg (by decide), e152_39, if_pos (F_a311 w), Cl_eq _ (rk_145p p 4 (d + 1)), fl 4 (by decide)]
    · rw [if_neg q2, if_neg q2, if_pos rfl, e152_44, if_pos (F_a311 w), e30, if_pos rfl, e152_55, if_pos (F_a311 w), v1 q, Cl_eq _ r150, e152_65]
  · rw [if_neg q, if_neg (by decide), e152_9, if_pos (F_a311 w), if_neg (fun u => q (s1.mp u)), if_pos (F_a311 w), Cl_eq _ (rk_145p p 1 (d + 1)), e152_22, fl 1 (by decide)]
theorem rk_149f (w : WF h) (q : ¬ ld h 311 30 = 0) (lo hi : Int) (d : Nat) : C d 149 [(2, 311), (0, lo), (0, hi)] h = some ((0, lo), h) := by
  rw [ce_149, e149_0, if_pos (F_a311 w), if_neg q]
theorem rk_152f (w : WF h) (q : ¬ ld h 311 30 = 0) (x a m : Int) (d : Nat) : C d 152 [(2, 311), (2, x), (0, a), (0, m)] h = some ((0, 0), h) := by
  rw [ce_152, e152_0, if_pos (F_a311 w), if_neg q]
theorem rk_153 (p : PR h tp n pl T tw hl kn op ln) (d : Nat) : C (d + 3) 153 [(2, 311)] h = if nxk (tkn tp n pl) (tSitr T (wL tp n pl)) = 0 then some ((0, tSitr T (wL tp n pl)), h) else some ((0, 0), flt h (nxk (tkn tp n pl) (tSitr T (wL tp n pl))) pl) := by
  have w := p.1.1
  have t := p.2.2.2.2.2.1.K.2.1
  have c1 := (PR_c0 p).2.1
  have r := rk_152 p.pp (F_a317 w) (L_a317 w) t (fnd_sitr p) d
  have r155 := rk_155 w (x := 1) (by decide) (d + 2)
  rw [show (7 : Int) + 1 = 8 by decide, c1] at r155
  rw [ce_153, e153_0, if_pos (F_a311 w), if_pos (F_a311 w), P_311_7 w, Cl_eq _ r155]
  by_cases q : nxk (tkn tp n pl) (tSitr T (wL tp n pl)) = 0
  · rw [if_pos q] at r ⊢
    rw [Cl_eq _ r, if_pos (F_a311 w)]
  · rw [if_neg q] at r ⊢
    rw [Cl_eq _ r, if_pos (F_a311 w)]
theorem rk_154 (p : PR h tp n pl T tw hl kn op ln) (d : Nat) : C (d + 3) 154 [(2, 311)] h = if nxk (tkn tp n pl) (tFeat T (wL tp n pl)) = 0 then some ((0, tFeat T (wL tp n pl)), h) else some ((0, 0), flt h (nxk (tkn tp n pl) (tFeat T (wL tp n pl))) pl) := by
  have w := p.1.1
  have t := p.2.2.2.2.2.1.K.1
  have c1 := (PR_c0 p).1
  have r := rk_152 p.pp (F_a314 w) (L_a314 w) t (fnd_feat p) d
  have r155 := rk_155 w (x := 0) (by decide) (d + 2)
  rw [show (7 : Int) + 0 = 7 by decide, c1] at r155
  rw [ce_154, e154_0, if_pos (F_a311 w), if_pos (F_a311 w), P_311_4 w, Cl_eq _ r155]
  by_cases q : nxk (tkn tp n pl) (tFeat T (wL tp n pl)) = 0
  · rw [if_pos q] at r ⊢
    rw [Cl_eq _ r, if_pos (F_a311 w)]
  · rw [if_neg q] at r ⊢
    rw [Cl_eq _ r, if_pos (F_a311 w)]
/-- is the table of a line's kind full? -/
def pfl (T : Wd) (tw x : Int) : Bool := if x = 0 then decide (T 0 0 = 5) else if x = 1 then decide (T 1 0 = 5) else if x = 2 then decide (T 2 0 = 10) else if x = 3 then decide (T 3 0 = 3) else if x = 4 then decide (tw = 2) else false
theorem rk_157 (p : PR h tp n pl T tw hl kn op ln) (x : Int) (d : Nat) : C (d + 1) 157 [(2, 311), (0, x)] h = some ((0, bI (pfl T tw x)), h) := by
  have w := p.1.1
  obtain ⟨c0, c1, c2, c3⟩ := PR_c0 p
  have c4 : ld h 313 11 = tw := p.2.2.2.2.2.2.1
  have r0 := rk_155 w (x := 0) (by decide) d
  have r1 := rk_155 w (x := 1) (by decide) d
  have r2 := rk_155 w (x := 2) (by decide) d
  have r3 := rk_155 w (x := 3) (by decide) d
  have r4 := rk_155 w (x := 4) (by decide) d
  rw [show (7 : Int) + 0 = 7 by decide, c0] at r0
  rw [show (7 : Int) + 1 = 8 by decide, c1] at r1
  rw [show (7 : Int) + 2 = 9 by decide, c2] at r2
  rw [show (7 : Int) + 3 = 10 by decide, c3] at r3
  rw [show (7 : Int) + 4 = 11 by decide, c4] at r4
  have y : V (d + 1) 157 70 [(9, 0), (9, 0)] [] h = some ((0, 1), h) := by rw [e157_70, e157_75, if_pos (Or.inr rfl)]
  have no : V (d + 1) 157 74 [(9, 0), (9, 0)] [] h = some ((0, 0), h) := by rw [e157_74, e157_75, if_pos (Or.inl rfl)]
  unfold pfl
  rw [ce_157, e157_0]
  by_cases x0 : x = 0
  · rw [if_pos x0, if_pos x0, if_pos (F_a311 w), Cl_eq _ r0]
    by_cases q : T 0 0 = 5
    · rw [if_pos q, y, decide_eq_true q]; rfl
    · rw [if_neg q, e157_13, if_neg (by omega), e157_27, if_neg (by omega), e157_42, if_neg (by omega), e157_56, if_neg (by omega), no, decide_eq_false q]; rfl
  rw [if_neg x0, if_neg x0, e157_13]
  by_cases x1 : x = 1
  · rw [if_pos x1, if_pos x1, if_pos (F_a311 w), Cl_eq _ r1]
    by_cases q : T 1 0 = 5
    · rw [if_pos q, y, decide_eq_true q]; rfl
    · rw [if_neg q, e157_27, if_neg (by omega), e157_42, if_neg (by omega), e157_56, if_neg (by omega), no, decide_eq_false q]; rfl
  rw [if_neg x1, if_neg x1, e157_27]
  by_cases x2 : x = 2
  · rw [if_pos x2, if_pos x2, if_pos (F_a311 w), Cl_eq _ r2]
    by_cases q : T 2 0 = 10
    · rw [if_pos q, y, decide_eq_true q]; rfl
    · rw [if_neg q, e157_42, if_neg (by omega), e157_56, if_neg (by omega), no, decide_eq_false q]; rfl
  rw [if_neg x2, if_neg x2, e157_42]
  by_cases x3 : x = 3
  · rw [if_pos x3, if_pos x3, if_pos (F_a311 w), Cl_eq _ r3]
    by_cases q : T 3 0 = 3
    · rw [if_pos q, y, decide_eq_true q]; rfl
    · rw [if_neg q, e157_56, if_neg (by omega), no, decide_eq_false q]; rfl
  rw [if_neg x3, if_neg x3, e157_56]
  by_cases x4 : x = 4
  · rw [if_pos x4, if_pos x4, if_pos (F_a311 w), Cl_eq _ r4]
    by_cases q : tw = 2
    · rw [if_pos q, y, decide_eq_true q]; rfl
    · rw [if_neg q, no, decide_eq_false q]; rfl
  · rw [if_neg x4, if_neg x4, no]; rfl
end EX2
