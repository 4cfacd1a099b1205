/-! layer 2: what waits is put down -/
def rls (k : Nat) (lv : Int) : List Int → Wd → Wd × List Int
  | [], T => (T, [])
  | t :: W, T => if tlev t < lv then (T, t :: W) else rls k lv W (tPut T k t 0)
section RE
variable {h : Hp} {tp : Int → Int} {b n pl : Int} {T : Wd} {tw hl kn : Int} {W : List Int}
theorem kq_81p (p : PL h tp b n pl T tw hl kn) {k : Nat} (hk : k < 3) {t v : Int} (ht : -38 ≤ t ∧ t ≤ -1) (hv : I32 v) (d : Nat) : okF h (b + 18 + 4 * (k : Int)) 22 = true ∧ ∃ h', C d 81 [(2, b + 18 + 4 * (k : Int)), (2, t), (0, v)] h = some ((9, 0), h') ∧ BkF b h h' ∧ PL h' tp b n pl (tPut T k t v) tw hl kn := by
  have hq : b + 18 + 4 * (k : Int) ∈ LWL := of_decide_eq_true (List.all_eq_true.mp (List.all_eq_true.mp lwl_b b p.1.2.2.1) (k : Int) (by
    have h3 : k = 0 ∨ k = 1 ∨ k = 2 := by omega
    rcases h3 with rfl | rfl | rfl <;> decide))
  refine ⟨lfF0 p.1.1.1 hq, ?_⟩
  have h3 : k = 0 ∨ k = 1 ∨ k = 2 := by omega
  rcases h3 with rfl | rfl | rfl
  · have := kq_81p0 p ht hv d
    rw [show b + 18 = b + 18 + 4 * ((0 : Nat) : Int) by omega] at this; exact this
  · have := kq_81p1 p ht hv d
    rw [show b + 22 = b + 18 + 4 * ((1 : Nat) : Int) by omega] at this; exact this
  · have := kq_81p2 p ht hv d
    rw [show b + 26 = b + 18 + 4 * ((2 : Nat) : Int) by omega] at this; exact this
theorem BkF_p {h' : Hp} (f : BkF b h h') (hb : b ∈ BKL) : ∀ a j, a ≤ 36 → ld h' a j = ld h a j := fun a j z => f.2.2 a j (by rcases bk_b hb with rfl | rfl <;> omega)
theorem WS_b {h' : Hp} (ws : WS h W) (f : BkF b h h') (hb : b ∈ BKL) : WS h' W := by
  obtain ⟨w1, w2, w3, w4⟩ := ws
  exact ⟨(BkF_p f hb 3 3 (by decide)).trans w1, (stk_cong (fun j _ _ => BkF_p f hb 36 j (by decide))).trans w2, w3, w4⟩
theorem kq_55 {k : Nat} (hk : k < 3) (lv : Int) (d : Nat) : ∀ (W : List Int) (T : Wd) (h : Hp), PL h tp b n pl T tw hl kn → WS h W → ∃ h', V (d + 1) 55 0 [(2, 3), (2, b + 18 + 4 * (k : Int)), (0, lv)] [] h = some ((9, 0), h') ∧ FrP b h h' ∧ PL h' tp b n pl (rls k lv W T).1 tw hl kn ∧ WS h' (rls k lv W T).2 ∧ ld h' 3 4 = ld h 3 4 := by
  intro W
  induction W with
  | nil =>
    intro T h p ws
    have w := p.1.1.1
    exact ⟨h, by rw [e55_0, if_pos (F_a3 w), ws.1, if_neg (by decide), e55_54], FrP_rf w, p, ws, rfl⟩
  | cons t W ih =>
    intro T h p ws
    have w := p.1.1.1
    have a54 := kq_54 w ws d
    obtain ⟨w1, w2, w3, w4⟩ := id ws
    have hln : (((t :: W).length : Nat) : Int) = (W.length : Int) + 1 := by rw [List.length_cons]; omega
    have w3' : W.length + 1 ≤ 72 := w3
    have et : ld h 36 (W.length : Int) = t := (List.cons.inj w2).1
    rw [e55_0, if_pos (F_a3 w), w1, hln, if_pos (by omega), if_pos (F_a3 w), if_pos (F_a3 w), P3_2 w, if_pos (F_a36 w), L_a36 w, if_neg (by omega), e55_19, if_pos (F_a3 w), Cl_eq _ a54]
    unfold rls
    show ∃ h', (if tlev t < lv then _ else _) = _ ∧ _
    by_cases q : tlev t < lv
    · rw [if_pos q, if_pos q, e55_54]
      exact ⟨h, rfl, FrP_rf w, p, ws, rfl⟩
    · have l1 := PL_3 p (j := 3) (by decide) (by decide) (W.length : Int)
      have wl := l1.1.1.1
      have ws1 : WS (st h 3 3 (W.length : Int)) W := ⟨ld_st_eq _ _ _ _, (stk_cong (fun j _ _ => ld_st_ne (Or.inl (by decide)))).trans (List.cons.inj w2).2, by omega, fun x hx => w4 x (List.mem_cons_of_mem _ hx)⟩
      obtain ⟨fq, h2, a2, f2, l2⟩ := kq_81p l1 hk (w4 t List.mem_cons_self) (v := 0) (I32_of (by decide)) d
      obtain ⟨h', a, f, l, ws', g4⟩ := ih _ h2 l2 (WS_b ws1 f2 p.1.2.2.1)
      have g33 : ld (st h 3 3 (W.length : Int)) 3 3 = (W.length : Int) := ld_st_eq _ _ _ _
      have g36 : ld (st h 3 3 (W.length : Int)) 36 (W.length : Int) = t := (ld_st_ne (Or.inl (by decide))).trans et
      refine ⟨h', ?_, FrP_tr (FrP_3 w (j := 3) (by decide) _) (FrP_tr (FrP_B f2) f), by rw [if_neg q]; exact l, by rw [if_neg q]; exact ws', ?_⟩
      · rw [if_neg q, if_pos (F_a3 w), if_pos (W_a3 w), w1, hln, show w32 ((W.length : Int) + 1 - 1) = (W.length : Int) by unfold w32; omega, e55_37, if_pos (F_a3 wl), if_pos (F_a3 wl), P3_2 wl, if_pos (F_a36 wl), g33, L_a36 wl, if_pos (by omega), if_pos fq, g36, Cl_eq _ a2, e55_51]
        exact a
      · rw [g4, BkF_p f2 p.1.2.2.1 3 4 (by decide), ld_st_ne (Or.inr (by decide))]
end RE
