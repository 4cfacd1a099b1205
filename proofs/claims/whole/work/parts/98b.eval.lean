/-! layer 2: the plain program: a sum is worked out -/
def okv (v : Int) : Prop := -LM ≤ v ∧ v ≤ LM
def FrW (h h' : Hp) : Prop := WF h' ∧ h'.2 = h.2 ∧ ∀ a j : Int, a ≠ 348 → a ≠ 349 → ¬ (a = 311 ∧ j = 57) → ld h' a j = ld h a j
theorem FrW_rf {h : Hp} (w : WF h) : FrW h h := ⟨w, rfl, fun _ _ _ _ _ => rfl⟩
theorem FrW_tr {h h1 h2 : Hp} (f : FrW h h1) (g : FrW h1 h2) : FrW h h2 := ⟨g.1, g.2.1.trans f.2.1, fun a j e1 e2 e3 => (g.2.2 a j e1 e2 e3).trans (f.2.2 a j e1 e2 e3)⟩
theorem n349 (j : Int) : npt 349 j := npt_A (by decide +kernel) j
theorem n348 (j : Int) : npt 348 j := npt_A (by decide +kernel) j
theorem n57 : npt 311 57 := npt_J (by decide +kernel)
theorem FrW_49 {h h1 : Hp} (f : FrW h h1) (j v : Int) : FrW h (st h1 349 j v) := ⟨wf_st f.1 (n349 j), f.2.1, fun a i e1 e2 e3 => (ld_st_ne (Or.inl e2)).trans (f.2.2 a i e1 e2 e3)⟩
theorem FrW_48 {h h1 : Hp} (f : FrW h h1) (j v : Int) : FrW h (st h1 348 j v) := ⟨wf_st f.1 (n348 j), f.2.1, fun a i e1 e2 e3 => (ld_st_ne (Or.inl e1)).trans (f.2.2 a i e1 e2 e3)⟩
theorem FrW_57 {h h1 : Hp} (f : FrW h h1) (v : Int) : FrW h (st h1 311 57 v) := ⟨wf_st f.1 n57, f.2.1, fun a i e1 e2 e3 => (ld_st_ne (by omega)).trans (f.2.2 a i e1 e2 e3)⟩
def FrV (h h' : Hp) : Prop := WF h' ∧ h'.2 = h.2 ∧ ∀ a j : Int, a ≠ 349 → ¬ (a = 311 ∧ j = 57) → ld h' a j = ld h a j
theorem FrV_rf {h : Hp} (w : WF h) : FrV h h := ⟨w, rfl, fun _ _ _ _ => rfl⟩
theorem FrV_tr {h h1 h2 : Hp} (f : FrV h h1) (g : FrV h1 h2) : FrV h h2 := ⟨g.1, g.2.1.trans f.2.1, fun a j e2 e3 => (g.2.2 a j e2 e3).trans (f.2.2 a j e2 e3)⟩
theorem FrV_49 {h h1 : Hp} (f : FrV h h1) (j v : Int) : FrV h (st h1 349 j v) := ⟨wf_st f.1 (n349 j), f.2.1, fun a i e2 e3 => (ld_st_ne (Or.inl e2)).trans (f.2.2 a i e2 e3)⟩
theorem FrV_57 {h h1 : Hp} (f : FrV h h1) (v : Int) : FrV h (st h1 311 57 v) := ⟨wf_st f.1 n57, f.2.1, fun a i e2 e3 => (ld_st_ne (by omega)).trans (f.2.2 a i e2 e3)⟩
theorem FrW_V {h h1 : Hp} (f : FrV h h1) : FrW h h1 := ⟨f.1, f.2.1, fun a j _ e2 e3 => f.2.2 a j e2 e3⟩
def StA (r : Int) (h' : Hp) : Option (List Int) → Prop
  | none => r = 0
  | some l => r = 1 ∧ ld h' 311 57 = (l.length : Int) ∧ stk h' 349 l.length = l ∧ ∀ v ∈ l, okv v
theorem ck_bI (b : Bool) : ck (bI b) = some (bI b) := by cases b <;> rfl
theorem okv_bI (b : Bool) : okv (bI b) := by unfold okv LM; cases b <;> decide
theorem w64_ok {v : Int} (h : -(2 * LM) ≤ v ∧ v ≤ 2 * LM) : w64 v = v := by
  have : LM = 1000000000000 := rfl
  unfold w64; omega
section EV
variable {h : Hp}
theorem rk_189 (x : Int) (h01 : x = 0 ∨ x = 1) (d : Nat) : C d 189 [(0, x)] h = some ((1, x), h) := by
  rw [ce_189, e189_0]
  rcases h01 with rfl | rfl
  · rw [if_pos rfl, e189_8, e189_9]
  · rw [if_neg (by decide), e189_9]
theorem rk_242 (x : Int) (hx : okv x) (d : Nat) : C d 242 [(1, x)] h = some ((1, iabs x), h) := by
  unfold okv at hx
  rw [ce_242, e242_0]
  simp only [lcm_l]
  unfold iabs
  by_cases q : x < 0
  · rw [if_pos q, e242_12, if_pos q, w64_ok (by omega)]
  · rw [if_neg q, e242_11, e242_12, if_neg q]
theorem rk_407 {h h1 : Hp} (f : FrV h h1) {r : List Int} (h57 : ld h1 311 57 = (r.length : Int) + 1) (hs : stk h1 349 r.length = r) (hv : ∀ v ∈ r, okv v) (hl : r.length < 64) (v : Int) (d : Nat) : ∃ q h', V d 190 407 [(2, 311), (9, 0), (9, 0), (9, 0), (9, 0), (9, 0), (1, v), (9, 0)] [] h1 = some ((0, q), h') ∧ FrV h h' ∧ StA q h' (match ck v with | some v => some (v :: r) | none => none) := by
  have w1 := f.1
  have f2 := FrV_49 f (r.length : Int) v
  have w2 := f2.1
  have e407 : V d 190 407 [(2, 311), (9, 0), (9, 0), (9, 0), (9, 0), (9, 0), (1, v), (9, 0)] [] h1 = V d 190 420 [(9, 0), (9, 0), (9, 0), (9, 0), (9, 0), (9, 0), (1, v), (9, 0)] [] (st h1 349 (r.length : Int) v) := by
    rw [e190_407, if_pos (F_a311 w1), if_pos (F_a311 w1), P_311_56 w1, if_pos (W_a349 w1), h57, show w32 ((r.length : Int) + 1 - 1) = (r.length : Int) by unfold w32; omega, L_a349 w1, if_pos (by omega)]
  rw [e407, e190_420]
  simp only [lcm_g, lcm_l]
  unfold ck
  have hLM : LM = 1000000000000 := rfl
  by_cases q : LM < v ∨ v < -LM
  · refine ⟨0, _, ?_, f2, by rw [if_pos q]; rfl⟩
    rcases q with q | q
    · rw [if_pos (by omega), e190_442, e190_443, if_pos (by decide)]
    · rw [if_neg (by omega), if_pos (by omega), e190_442, e190_443, if_pos (by decide)]
  · refine ⟨1, _, by rw [if_neg (by omega), if_neg (by omega), e190_438, e190_443, if_pos (by decide)], f2, ?_⟩
    rw [if_neg q]
    refine ⟨rfl, ?_, ?_, ?_⟩
    · rw [ld_st_ne (Or.inl (by decide)), h57, List.length_cons]; omega
    · show ld (st h1 349 (r.length : Int) v) 349 (r.length : Int) :: stk (st h1 349 (r.length : Int) v) 349 r.length = v :: r
      rw [ld_st_eq, stk_st (Int.le_refl _), hs]
    · intro u hu
      rcases List.mem_cons.mp hu with z | z
      · rw [z]; unfold okv; omega
      · exact hv u z
theorem rk_190 (w : WF h) {c : Int} {l : List Int} (hl : l.length ≤ 64) (h57 : ld h 311 57 = (l.length : Int)) (hs : stk h 349 l.length = l) (hv : ∀ v ∈ l, okv v) (n1 : c = 260 → 1 ≤ l.length) (n2 : c ≠ 260 → 2 ≤ l.length) (d : Nat) : ∃ q h', C (d + 2) 190 [(2, 311), (0, c)] h = some ((0, q), h') ∧ FrV h h' ∧ StA q h' (kstep (fun _ => 0) 2 c l) := by
  cases l with
  | nil => exfalso; by_cases q : c = 260
           · have := n1 q; simp at this
           · have := n2 q; simp at this
  | cons y t =>
    have hln : (((y :: t).length : Nat) : Int) = (t.length : Int) + 1 := by rw [List.length_cons]; omega
    have hl' : t.length + 1 ≤ 64 := hl
    have ey : ld h 349 (t.length : Int) = y := (List.cons.inj hs).1
    have et : stk h 349 t.length = t := (List.cons.inj hs).2
    have oy := hv y List.mem_cons_self
    have ot : ∀ v ∈ t, okv v := fun v z => hv v (List.mem_cons_of_mem _ z)
    unfold kstep
    rw [if_neg (by decide), if_neg (by decide), ce_190, e190_0, if_pos (F_a311 w), if_pos (F_a311 w), P_311_56 w, if_pos (F_a349 w), h57, hln, show w32 ((t.length : Int) + 1 - 1) = (t.length : Int) by unfold w32; omega, L_a349 w, if_pos (by omega), ey]
    by_cases q : c = 260
    · rw [if_pos q, if_pos q, e190_19, if_pos (F_a311 w), if_pos (F_a311 w), P_311_56 w, h57, hln, show w32 ((t.length : Int) + 1 - 1) = (t.length : Int) by unfold w32; omega]
      simp only [lcm_e]
      have e40 : (if y = 0 then V (d + 2) 190 40 [(9, 0), (9, 0), (9, 0), (9, 0), (9, 0), (9, 0), (9, 0), (9, 0)] [(0, 1), (0, (t.length : Int)), (2, 349)] h else V (d + 2) 190 39 [(9, 0), (9, 0), (9, 0), (9, 0), (9, 0), (9, 0), (9, 0), (9, 0)] [(0, (t.length : Int)), (2, 349)] h) = V (d + 2) 190 40 [(9, 0), (9, 0), (9, 0), (9, 0), (9, 0), (9, 0), (9, 0), (9, 0)] [(0, bI (decide (y = 0))), (0, (t.length : Int)), (2, 349)] h := by
        by_cases z : y = 0
        · rw [if_pos z, decide_eq_true z]; rfl
        · rw [if_neg z, e190_39, decide_eq_false z]; rfl
      rw [e40, e190_40, Cl_eq _ (rk_189 _ (bI_01 _) (d + 1)), if_pos (W_a349 w), L_a349 w, if_pos (by omega), if_pos (by decide)]
      refine ⟨1, _, rfl, FrV_49 (FrV_rf w) _ _, rfl, ?_, ?_, ?_⟩
      · rw [ld_st_ne (Or.inl (by decide)), h57]; rfl
      · show ld (st h 349 (t.length : Int) _) 349 (t.length : Int) :: stk (st h 349 (t.length : Int) _) 349 t.length = _
        rw [ld_st_eq, stk_st (Int.le_refl _), et]
      · intro u hu
        rcases List.mem_cons.mp hu with z | z
        · rw [z]; exact okv_bI _
        · exact ot u z
    rw [if_neg q, if_neg q]
    cases t with
    | nil => exfalso; have := n2 q; simp at this
    | cons x r =>
      have hrn : (((x :: r).length : Nat) : Int) = (r.length : Int) + 1 := by rw [List.length_cons]; omega
      have hl'' : r.length + 1 + 1 ≤ 64 := hl
      have ex : ld h 349 (r.length : Int) = x := (List.cons.inj et).1
      have er : stk h 349 r.length = r := (List.cons.inj et).2
      have ox := ot x List.mem_cons_self
      have orr : ∀ v ∈ r, okv v := fun v z => ot v (List.mem_cons_of_mem _ z)
      have f1 := FrV_57 (FrV_rf w) ((r.length : Int) + 1)
      have g57 : ld (st h 311 57 ((r.length : Int) + 1)) 311 57 = (r.length : Int) + 1 := ld_st_eq _ _ _ _
      have gs : stk (st h 311 57 ((r.length : Int) + 1)) 349 r.length = r := (stk_cong (fun j _ _ => ld_st_ne (Or.inl (by decide)))).trans er
      have fin := fun v => rk_407 f1 g57 gs orr (by omega) v (d + 2)
      rw [e190_46, if_pos (F_a311 w), if_pos (F_a311 w), P_311_56 w, if_pos (F_a349 w), h57, hln, hrn, show w32 ((r.length : Int) + 1 + 1 - 2) = (r.length : Int) by unfold w32; omega, L_a349 w, if_pos (by omega), if_pos (F_a311 w), if_pos (W_a311 w), ex, show w32 ((r.length : Int) + 1 + 1 - 1) = (r.length : Int) + 1 by unfold w32; omega, e190_69]
      have w1 := f1.1
      generalize st h 311 57 ((r.length : Int) + 1) = h1 at *
      unfold okv at ox oy
      have hLM : LM = 1000000000000 := rfl
      have cmp : ∀ b : Bool, jn c x y = some (bI b) → ∃ q h', V (d + 2) 190 407 [(2, 311), (9, 0), (9, 0), (9, 0), (9, 0), (9, 0), (1, bI b), (9, 0)] [] h1 = some ((0, q), h') ∧ FrV h h' ∧ StA q h' (match jn c x y with | some v => some (v :: r) | none => none) := fun b e => by
        have := fin (bI b)
        rw [ck_bI] at this
        rw [e]; exact this
      show ∃ q h', _ ∧ _ ∧ StA q h' (match jn c x y with | some v => some (v :: r) | none => none)
      by_cases c42 : c = 42
      · rw [if_pos c42, e190_186]
        simp only [lcm_e]
        by_cases x0 : x = 0
        · have := fin 0
          rw [if_pos x0, e190_212, x0, Int.zero_mul, show w64 0 = 0 from rfl]
          have ej : jn c 0 y = ck 0 := by unfold jn; rw [c42]; simp
          rw [ej]; exact this
        · have hx1 : iabs x ≠ 0 := by unfold iabs; split <;> omega
          have hdiv : w64 (LM.tdiv (iabs x)) = LM.tdiv (iabs x) := w64_ok (by have := div_bd (x := LM) (y := iabs x) (by omega); omega)
          rw [if_neg x0, Cl_eq _ (rk_242 y oy (d + 1)), Cl_eq _ (rk_242 x ox (d + 1)), if_neg hx1]
          simp only [lcm_g]
          rw [show (1000000000000 : Int) = LM from rfl, hdiv]
          have ej : jn c x y = if LM.tdiv (iabs x) < iabs y then none else ck (x * y) := by unfold jn; rw [c42]; simp [x0]
          rw [ej]
          by_cases z : LM.tdiv (iabs x) < iabs y
          · rw [if_pos z, if_pos z, e190_210, if_pos (by decide)]
            exact ⟨0, h1, rfl, f1, rfl⟩
          · have hb := mul_bd x0 (by omega : iabs y ≤ LM.tdiv (iabs x))
            rw [if_neg z, if_neg z, e190_212, w64_ok (by omega)]
            exact fin (x * y)
      rw [if_neg c42]
      by_cases c43 : c = 43
      · rw [if_pos c43, e190_168, w64_ok (by omega), show jn c x y = ck (x + y) by unfold jn; rw [if_pos c43]]
        exact fin _
      rw [if_neg c43]
      by_cases c45 : c = 45
      · rw [if_pos c45, e190_177, w64_ok (by omega), show jn c x y = ck (x - y) by unfold jn; rw [if_neg c43, if_pos c45]]
        exact fin _
      rw [if_neg c45]
      by_cases c47 : c = 47
      · rw [if_pos c47, e190_221]
        simp only [lcm_e]
        rw [show jn c x y = if y = 0 then none else ck (x.tdiv y) by unfold jn; rw [if_neg c43, if_neg c45, if_neg c42, if_pos c47]]
        by_cases y0 : y = 0
        · rw [if_pos y0, if_pos y0, if_pos (by decide)]
          exact ⟨0, h1, rfl, f1, rfl⟩
        · have := div_bd (x := x) (y := y) ox
          rw [if_neg y0, if_neg y0, e190_229, if_neg y0, w64_ok (by omega)]
          exact fin _
      rw [if_neg c47]
      by_cases c60 : c = 60
      · have ej : jn c x y = some (bI (decide (x < y))) := by unfold jn; rw [c60]; rfl
        have := cmp _ ej
        rw [if_pos c60, e190_238]
        simp only [lcm_l]
        by_cases z : x < y
        · rw [decide_eq_true z] at this; rw [if_pos z, e190_250, Cl_eq _ (rk_189 1 (by decide) (d + 1))]; exact this
        · rw [decide_eq_false z] at this; rw [if_neg z, e190_249, e190_250, Cl_eq _ (rk_189 0 (by decide) (d + 1))]; exact this
      rw [if_neg c60]
      by_cases c61 : c = 61
      · have ej : jn c x y = some (bI (decide (x = y))) := by unfold jn; rw [c61]; rfl
        have := cmp _ ej
        rw [if_pos c61, e190_278]
        simp only [lcm_e]
        by_cases z : x = y
        · rw [decide_eq_true z] at this; rw [if_pos z, e190_290, Cl_eq _ (rk_189 1 (by decide) (d + 1))]; exact this
        · rw [decide_eq_false z] at this; rw [if_neg z, e190_289, e190_290, Cl_eq _ (rk_189 0 (by decide) (d + 1))]; exact this
      rw [if_neg c61]
      by_cases c62 : c = 62
      · have ej : jn c x y = some (bI (decide (y < x))) := by unfold jn; rw [c62]; rfl
        have := cmp _ ej
        rw [if_pos c62, e190_258]
        simp only [lcm_g]
        by_cases z : y < x
        · rw [decide_eq_true z] at this; rw [if_pos z, e190_270, Cl_eq _ (rk_189 1 (by decide) (d + 1))]; exact this
        · rw [decide_eq_false z] at this; rw [if_neg z, e190_269, e190_270, Cl_eq _ (rk_189 0 (by decide) (d + 1))]; exact this
      rw [if_neg c62]
      by_cases c256 : c = 256
      · have ej : jn c x y = some (bI (!decide (y < x))) := by unfold jn; rw [c256]; rfl
        have := cmp _ ej
        rw [if_pos c256, e190_298]
        simp only [lcm_g]
        by_cases z : y < x
        · rw [decide_eq_true z] at this; rw [if_pos z, e190_309, e190_310, Cl_eq _ (rk_189 0 (by decide) (d + 1))]; exact this
        · rw [decide_eq_false z] at this; rw [if_neg z, e190_310, Cl_eq _ (rk_189 1 (by decide) (d + 1))]; exact this
      rw [if_neg c256]
      by_cases c257 : c = 257
      · have ej : jn c x y = some (bI (!decide (x = y))) := by unfold jn; rw [c257]; rfl
        have := cmp _ ej
        rw [if_pos c257, e190_338]
        simp only [lcm_e]
        by_cases z : x = y
        · rw [decide_eq_true z] at this; rw [if_pos z, e190_349, e190_350, Cl_eq _ (rk_189 0 (by decide) (d + 1))]; exact this
        · rw [decide_eq_false z] at this; rw [if_neg z, e190_350, Cl_eq _ (rk_189 1 (by decide) (d + 1))]; exact this
      rw [if_neg c257]
      by_cases c258 : c = 258
      · have ej : jn c x y = some (bI (!decide (x < y))) := by unfold jn; rw [c258]; rfl
        have := cmp _ ej
        rw [if_pos c258, e190_318]
        simp only [lcm_l]
        by_cases z : x < y
        · rw [decide_eq_true z] at this; rw [if_pos z, e190_329, e190_330, Cl_eq _ (rk_189 0 (by decide) (d + 1))]; exact this
        · rw [decide_eq_false z] at this; rw [if_neg z, e190_330, Cl_eq _ (rk_189 1 (by decide) (d + 1))]; exact this
      rw [if_neg c258]
      by_cases c261 : c = 261
      · have ej : jn c x y = some (bI (!decide (x = 0) && !decide (y = 0))) := by unfold jn; rw [c261]; rfl
        have := cmp _ ej
        rw [if_pos c261, e190_358]
        simp only [lcm_e]
        by_cases z : x = 0
        · rw [decide_eq_true z] at this; rw [if_pos z, e190_375, e190_376, Cl_eq _ (rk_189 0 (by decide) (d + 1))]; exact this
        · by_cases z2 : y = 0
          · rw [decide_eq_true z2, decide_eq_false z] at this; rw [if_neg z, if_pos z2, e190_375, e190_376, Cl_eq _ (rk_189 0 (by decide) (d + 1))]; exact this
          · rw [decide_eq_false z2, decide_eq_false z] at this; rw [if_neg z, if_neg z2, e190_371, e190_376, Cl_eq _ (rk_189 1 (by decide) (d + 1))]; exact this
      rw [if_neg c261]
      have ej : jn c x y = some (bI (!decide (x = 0) || !decide (y = 0))) := by unfold jn; rw [if_neg c43, if_neg c45, if_neg c42, if_neg c47, if_neg c60, if_neg c256, if_neg c61, if_neg c257, if_neg c258, if_neg c62, if_neg c261]
      have := cmp _ ej
      rw [e190_384]
      simp only [lcm_e]
      by_cases z : x = 0
      · by_cases z2 : y = 0
        · rw [decide_eq_true z2, decide_eq_true z] at this; rw [if_pos z, if_pos z2, e190_401, e190_402, Cl_eq _ (rk_189 0 (by decide) (d + 1))]; exact this
        · rw [decide_eq_false z2, decide_eq_true z] at this; rw [if_pos z, if_neg z2, e190_397, e190_402, Cl_eq _ (rk_189 1 (by decide) (d + 1))]; exact this
      · rw [decide_eq_false z] at this; rw [if_neg z, e190_397, e190_402, Cl_eq _ (rk_189 1 (by decide) (d + 1))]; exact this
end EV
