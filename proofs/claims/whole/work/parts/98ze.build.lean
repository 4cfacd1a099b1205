/-! layer 2: the plain program's second halves -/
def hfA (a : Int) : Int := if a = 313 then 7 else if a ≤ 321 then 5 else if a ≤ 324 then 10 else if a ≤ 327 then 3 else if a = 328 then 12 else if a ≤ 330 then 3 else 64
/-- the heap as it would be if the second halves were the first -/
def shf (h : Hp) : Hp := (fun a j => if 313 ≤ a ∧ a ≤ 332 then h.1 a (j + hfA a) else h.1 a j, h.2)
section BU
variable {h h' : Hp} {tp : Int → Int} {n i : Int} {T : Wd}
theorem shf_in (h : Hp) {a : Int} (ha : 313 ≤ a ∧ a ≤ 332) (j : Int) : ld (shf h) a j = ld h a (j + hfA a) := by
  show (if 313 ≤ a ∧ a ≤ 332 then _ else _) = _
  rw [if_pos ha]; rfl
theorem shf_out (h : Hp) {a : Int} (ha : ¬ (313 ≤ a ∧ a ≤ 332)) (j : Int) : ld (shf h) a j = ld h a j := by
  show (if 313 ≤ a ∧ a ≤ 332 then _ else _) = _
  rw [if_neg ha]; rfl
theorem pt_out : PTL.all (fun q => !decide (313 ≤ q.1 ∧ q.1 ≤ 332)) = true := by decide +kernel
theorem shf_wf (w : WF h) : WF (shf h) := by
  refine ⟨w.1, fun q hq => ?_, fun a j h0 h1 => ?_⟩
  · have t := List.all_eq_true.mp pt_out q hq
    rw [Bool.not_eq_true', decide_eq_false_iff_not] at t
    show (if 313 ≤ q.1 ∧ q.1 ≤ 332 then _ else _) = _
    rw [if_neg t]; exact w.2.1 q hq
  · show (if 313 ≤ a ∧ a ≤ 332 then _ else _) = _
    rw [if_neg (by omega)]; exact w.2.2 a j h0 h1
theorem shf_st (h : Hp) {a : Int} (ha : 313 ≤ a ∧ a ≤ 332) (j v : Int) : shf (st h a (hfA a + j) v) = st (shf h) a j v := by
  refine Prod.ext (funext fun x => funext fun y => ?_) rfl
  show (if 313 ≤ x ∧ x ≤ 332 then (if x = a ∧ y + hfA x = hfA a + j then v else h.1 x (y + hfA x)) else (if x = a ∧ y = hfA a + j then v else h.1 x y)) = (if x = a ∧ y = j then v else if 313 ≤ x ∧ x ≤ 332 then h.1 x (y + hfA x) else h.1 x y)
  by_cases q : x = a
  · rw [q, if_pos ha, if_pos ha]
    by_cases y0 : y = j
    · rw [if_pos ⟨rfl, by omega⟩, if_pos ⟨rfl, y0⟩]
    · rw [if_neg (fun u => y0 (by omega)), if_neg (fun u => y0 u.2)]
  · rw [if_neg (show ¬ (x = a ∧ y + hfA x = hfA a + j) from fun u => q u.1), if_neg (show ¬ (x = a ∧ y = hfA a + j) from fun u => q u.1), if_neg (show ¬ (x = a ∧ y = j) from fun u => q u.1)]
theorem shf_so (h : Hp) {a : Int} (ha : ¬ (313 ≤ a ∧ a ≤ 332)) (j v : Int) : shf (st h a j v) = st (shf h) a j v := by
  refine Prod.ext (funext fun x => funext fun y => ?_) rfl
  show (if 313 ≤ x ∧ x ≤ 332 then (if x = a ∧ y + hfA x = j then v else h.1 x (y + hfA x)) else (if x = a ∧ y = j then v else h.1 x y)) = (if x = a ∧ y = j then v else if 313 ≤ x ∧ x ≤ 332 then h.1 x (y + hfA x) else h.1 x y)
  by_cases q : x = a
  · have hx : ¬ (313 ≤ x ∧ x ≤ 332) := by rw [q]; exact ha
    rw [if_neg hx, if_neg hx]
  · rw [if_neg (show ¬ (x = a ∧ y + hfA x = j) from fun u => q u.1), if_neg (show ¬ (x = a ∧ y = j) from fun u => q u.1), if_neg (show ¬ (x = a ∧ y = j) from fun u => q u.1)]
/-- what the plain program's reader changes -/
def FrX (h h' : Hp) : Prop := WF h' ∧ h'.2 = h.2 ∧ ∀ a j : Int, ¬ (a = 311 ∧ ((23 ≤ j ∧ j ≤ 31) ∨ j = 34 ∨ j = 35)) → ¬ ((313 ≤ a ∧ a ≤ 332) ∧ hfA a ≤ j) → ld h' a j = ld h a j
theorem FrX_rf (w : WF h) : FrX h h := ⟨w, rfl, fun _ _ _ _ => rfl⟩
theorem FrX_tr {h1 h2 : Hp} (f : FrX h h1) (g : FrX h1 h2) : FrX h h2 := ⟨g.1, g.2.1.trans f.2.1, fun a j e1 e2 => (g.2.2 a j e1 e2).trans (f.2.2 a j e1 e2)⟩
theorem FrX_L (f : FrL h h') : FrX h h' := ⟨f.1, f.2.1, fun a j e1 _ => f.2.2 a j (by omega)⟩
/-- the knots put so far: of the laws told, as many as counted; twins, hail -/
def KC (h : Hp) (T : Wd) (tw hl kn : Int) : Prop := ld h 313 13 = T 19 0 + T 20 0 + T 21 0 ∧ (∀ k : Int, 0 ≤ k → k < 3 → ld h 330 (3 + k) ≤ ld h 313 13) ∧ T 19 0 + T 20 0 + T 21 0 = kn ∧ tw ≤ 2 ∧ (hl = 0 → ∀ i, T 18 i = 0) ∧ TX T
theorem TX_eq {T T' : Wd} (tx : TX T) (e : ∀ f : Nat, f = 1 ∨ f = 8 ∨ f = 9 ∨ 19 ≤ f → T' f = T f) : TX T' := by
  refine ⟨fun k hk => ?_, fun s h0 h1 => ?_⟩
  · rw [e (19 + k) (by omega), e (22 + 2 * k) (by omega), e (23 + 2 * k) (by omega)]; exact tx.1 k hk
  · rw [e 8 (by decide), e 9 (by decide)]; rw [e 1 (by decide)] at h1; exact tx.2 s h0 h1
theorem KC_eq {T T' : Wd} {tw tw' hl hl' kn : Int} (c : KC h T tw hl kn) (e13 : ld h' 313 13 = ld h 313 13) (e : ∀ j, ld h' 330 j = ld h 330 j) (eT : ∀ f : Nat, 18 ≤ f → f ≤ 21 → f = 18 ∧ hl' = 1 ∨ T' f = T f) (ht : tw' ≤ 2) (hh : hl' = hl ∨ hl' = 1) (tx : TX T') : KC h' T' tw' hl' kn := by
  have g : ∀ f : Nat, 19 ≤ f → f ≤ 21 → T' f = T f := fun f f1 f2 => by
    rcases eT f (by omega) f2 with u | u
    · omega
    · exact u
  refine ⟨by rw [e13, c.1, g 19 (by decide) (by decide), g 20 (by decide) (by decide), g 21 (by decide) (by decide)], fun k k0 k3 => by rw [e, e13]; exact c.2.1 k k0 k3, by rw [g 19 (by decide) (by decide), g 20 (by decide) (by decide), g 21 (by decide) (by decide)]; exact c.2.2.1, ht, fun z => ?_, tx⟩
  rcases eT 18 (by decide) (by decide) with u | u
  · omega
  · rw [u]; exact c.2.2.2.2.1 (by omega)
/-- where the plain program's reader stands -/
def PR (h : Hp) (tp : Int → Int) (n pl : Int) (T : Wd) (tw hl kn op ln : Int) : Prop :=
  RC h tp n (lTok tp n pl).2 ∧ ld h 311 27 = pl ∧ LSx tp n pl (tkn tp n pl) (ld h 311 28) (ld h 311 29) ∧ ld h 311 30 = 0 ∧ ld h 311 31 = -1 ∧ RT (shf h) T ∧ ld h 313 11 = tw ∧ bt (ld h 311 23) 0 = hl ∧ (∀ k : Nat, k < 3 → bt (ld h 311 23) (1 + (k : Int)) = if 0 < T (19 + k) 0 then 1 else 0) ∧ (0 ≤ ld h 311 23 ∧ ld h 311 23 < 16) ∧ ld h 311 35 = kn ∧ ld h 311 34 = op ∧ ld h 311 24 = ln ∧ KC h T tw hl kn
theorem PR_adv {pl : Int} {tw hl kn op ln : Int} (p : PR h tp n pl T tw hl kn op ln) (d : Nat) : ∃ h', C (d + 5) 141 [(2, 311)] h = some ((9, 0), h') ∧ FrL h h' ∧ PR h' tp n (adv tp n pl) T tw hl kn op ln := by
  obtain ⟨p1, p2, p3, p4, p5, p6, p7, p8, p9, p10, p11, p12, p13, p14⟩ := p
  obtain ⟨h', a1, f1, c1, g27, ls⟩ := rk_141 p1 d
  have g : ∀ j, ¬ (26 ≤ j ∧ j ≤ 29) → ld h' 311 j = ld h 311 j := fun j e => f1.2.2 311 j (by omega)
  have s : ∀ j, ld h' 313 j = ld h 313 j := fun j => f1.2.2 313 j (by omega)
  refine ⟨h', a1, f1, c1, g27, ls, (g 30 (by decide)).trans p4, (g 31 (by decide)).trans p5, ?_, (s 11).trans p7, by rw [g 23 (by decide)]; exact p8, fun k hk => by rw [g 23 (by decide)]; exact p9 k hk, by rw [g 23 (by decide)]; exact p10, (g 35 (by decide)).trans p11, (g 34 (by decide)).trans p12, (g 24 (by decide)).trans p13, KC_eq p14 (s 13) (fun j => f1.2.2 330 j (by omega)) (fun _ _ _ => Or.inr rfl) p14.2.2.2.1 (Or.inl rfl) p14.2.2.2.2.2⟩
  exact RT_eq p6 (shf_wf f1.1) (fun x j u v => by rw [shf_in _ ⟨u, v⟩, shf_in _ ⟨u, v⟩]; exact f1.2.2 x _ (by omega))
/-- the reader's part of it -/
def PP (h : Hp) (tp : Int → Int) (n pl : Int) : Prop := RC h tp n (lTok tp n pl).2 ∧ ld h 311 27 = pl ∧ LSx tp n pl (tkn tp n pl) (ld h 311 28) (ld h 311 29) ∧ ld h 311 30 = 0 ∧ ld h 311 31 = -1
theorem PR.pp {pl : Int} {tw hl kn op ln : Int} (p : PR h tp n pl T tw hl kn op ln) : PP h tp n pl := ⟨p.1, p.2.1, p.2.2.1, p.2.2.2.1, p.2.2.2.2.1⟩
theorem PP_adv {pl : Int} (p : PP h tp n pl) (d : Nat) : ∃ h', C (d + 5) 141 [(2, 311)] h = some ((9, 0), h') ∧ FrL h h' ∧ PP h' tp n (adv tp n pl) := by
  obtain ⟨p1, p2, p3, p4, p5⟩ := p
  obtain ⟨h', a1, f1, c1, g27, ls⟩ := rk_141 p1 d
  exact ⟨h', a1, f1, c1, g27, ls, (f1.2.2 311 30 (by omega)).trans p4, (f1.2.2 311 31 (by omega)).trans p5⟩
/-- a store elsewhere leaves the reader where it stands -/
theorem PP_st {pl : Int} (p : PP h tp n pl) {a j v : Int} (w' : WF (st h a j v)) (ha : 313 ≤ a ∧ a ≤ 332) : PP (st h a j v) tp n pl := by
  obtain ⟨⟨-, c2, c3, c4, c5, c6⟩, p2, p3, p4, p5⟩ := p
  have g : ∀ j', ld (st h a j v) 311 j' = ld h 311 j' := fun j' => ld_st_ne (by omega)
  have g2 : ∀ j', ld (st h a j v) 312 j' = ld h 312 j' := fun j' => ld_st_ne (by omega)
  exact ⟨⟨w', fun j' j0 j1 => by rw [g2]; exact c2 j' j0 j1, (g 25).trans c3, c4, (g 26).trans c5, c6⟩, (g 27).trans p2, by rw [g 28, g 29]; exact p3, (g 30).trans p4, (g 31).trans p5⟩
theorem n311_30 : npt 311 30 := npt_J (by decide +kernel)
theorem n311_31 : npt 311 31 := npt_J (by decide +kernel)
/-- a fault is told once -/
theorem rk_145 {x : Int} (w : WF h) (d : Nat) : C d 145 [(2, 311), (0, x)] h = some ((9, 0), if ld h 311 30 = 0 then st (st h 311 30 x) 311 31 (ld h 311 27) else h) := by
  have w1 : WF (st h 311 30 x) := wf_st w n311_30
  rw [ce_145, e145_0, if_pos (F_a311 w)]
  by_cases q : ld h 311 30 = 0
  · rw [if_pos q, if_pos q, e145_8, if_pos (W_a311 w), if_pos (F_a311 w1), if_pos (W_a311 w1), ld_st_ne (Or.inr (by decide)), e145_21]
  · rw [if_neg q, if_neg q]
theorem rk_146 (w : WF h) {x : Int} (d : Nat) : C d 146 [(2, 311), (0, x)] h = some ((0, bI (decide (ld h 311 30 = 0) && (decide (ld h 311 28 = 0) && decide (ld h 311 29 = x)))), h) := by
  rw [ce_146, e146_0, if_pos (F_a311 w)]
  by_cases q0 : ld h 311 30 = 0
  · rw [if_pos q0, if_pos (F_a311 w), decide_eq_true q0, Bool.true_and]
    by_cases q1 : ld h 311 28 = 0
    · rw [if_pos q1, e146_14, if_pos (F_a311 w), decide_eq_true q1, Bool.true_and]
      by_cases q2 : ld h 311 29 = x
      · rw [if_pos q2, e146_27, if_pos (Or.inr rfl), decide_eq_true q2]; rfl
      · rw [if_neg q2, e146_26, e146_27, if_pos (Or.inl rfl), decide_eq_false q2]; rfl
    · rw [if_neg q1, e146_26, e146_27, if_pos (Or.inl rfl), decide_eq_false q1]; rfl
  · rw [if_neg q0, e146_26, e146_27, if_pos (Or.inl rfl), decide_eq_false q0]; rfl
theorem rk_147 (w : WF h) {x : Int} (d : Nat) : C d 147 [(2, 311), (0, x)] h = some ((0, bI (decide (ld h 311 30 = 0) && (decide (ld h 311 28 = 3) && decide (ld h 311 29 = x)))), h) := by
  rw [ce_147, e147_0, if_pos (F_a311 w)]
  by_cases q0 : ld h 311 30 = 0
  · rw [if_pos q0, if_pos (F_a311 w), decide_eq_true q0, Bool.true_and]
    by_cases q1 : ld h 311 28 = 3
    · rw [if_pos q1, e147_15, if_pos (F_a311 w), decide_eq_true q1, Bool.true_and]
      by_cases q2 : ld h 311 29 = x
      · rw [if_pos q2, e147_28, if_pos (Or.inr rfl), decide_eq_true q2]; rfl
      · rw [if_neg q2, e147_27, e147_28, if_pos (Or.inl rfl), decide_eq_false q2]; rfl
    · rw [if_neg q1, e147_27, e147_28, if_pos (Or.inl rfl), decide_eq_false q1]; rfl
  · rw [if_neg q0, e147_27, e147_28, if_pos (Or.inl rfl), decide_eq_false q0]; rfl
theorem rk_148p {pl : Int} {tw hl kn op ln : Int} (p : PR h tp n pl T tw hl kn op ln) (d : Nat) : ∃ h', C (d + 6) 148 [(2, 311)] h = some ((9, 0), h') ∧ FrL h h' ∧ PR h' tp n (adv tp n pl) T tw hl kn op ln := by
  obtain ⟨h', a1, f1, p1⟩ := PR_adv p d
  have w := p.1.1
  exact ⟨h', by rw [ce_148, e148_0, if_pos (F_a311 w), p.2.2.2.1, if_pos rfl, if_pos (F_a311 w), Cl_eq _ a1, e148_11], f1, p1⟩
theorem rk_148f (w : WF h) (q : ¬ ld h 311 30 = 0) (d : Nat) : C d 148 [(2, 311)] h = some ((9, 0), h) := by
  rw [ce_148, e148_0, if_pos (F_a311 w), if_neg q, e148_11]
theorem rk_155 (w : WF h) {x : Int} (hx : 0 ≤ x ∧ x < 7) (d : Nat) : C d 155 [(2, 311), (0, x)] h = some ((0, ld h 313 (7 + x)), h) := by
  rw [ce_155, e155_0, if_pos (F_a311 w), P_311_3 w, if_pos (F_a313 w), L_a313 w, show w32 (7 + x) = 7 + x by unfold w32; omega, if_pos (by omega)]
theorem rk_156 (w : WF h) {x : Int} (hx : 0 ≤ x ∧ x < 7) (d : Nat) : C d 156 [(2, 311), (0, x)] h = some ((9, 0), st h 313 (7 + x) (w32 (ld h 313 (7 + x) + 1))) := by
  rw [ce_156, e156_0, if_pos (F_a311 w), P_311_3 w, if_pos (F_a313 w), L_a313 w, show w32 (7 + x) = 7 + x by unfold w32; omega, if_pos (by omega), if_pos (W_a313 w), if_pos (by omega), e156_13]
end BU
