/-! layer 2: the plain program matches what is left over -/
theorem mb_tb : (List.range 32).all (fun x => (List.range 32).all (fun s => (List.range 5).all (fun i => decide (and32 (and32 (x : Int) (xor32 (s : Int) (-1))) (shl32 1 (i : Int)) = 0) == !(decide (bt (x : Int) (i : Int) = 1) && decide (bt (s : Int) (i : Int) = 0))))) = true := by decide +kernel
theorem mb_b {x s i : Int} (hx : 0 ≤ x ∧ x < 32) (hs : 0 ≤ s ∧ s < 32) (hi : 0 ≤ i ∧ i < 5) : (!decide (and32 (and32 x (xor32 s (-1))) (shl32 1 i) = 0)) = (decide (bt x i = 1) && decide (bt s i = 0)) := by
  have := List.all_eq_true.mp (List.all_eq_true.mp (List.all_eq_true.mp mb_tb x.toNat (List.mem_range.mpr (by omega))) s.toNat (List.mem_range.mpr (by omega))) i.toNat (List.mem_range.mpr (by omega))
  rw [show ((x.toNat : Nat) : Int) = x by omega, show ((s.toNat : Nat) : Int) = s by omega, show ((i.toNat : Nat) : Int) = i by omega] at this
  rw [eq_of_beq this, Bool.not_not]
theorem fld_bits {c : Int → Bool} : ∀ (m : Nat) (k a : Int), 0 ≤ k → k + m ≤ 5 → (0 ≤ a ∧ a < 32) → (0 ≤ fld (fun i a => if c i = true then or32 a (shl32 1 i) else a) m k a ∧ fld (fun i a => if c i = true then or32 a (shl32 1 i) else a) m k a < 32) ∧ ∀ p, 0 ≤ p → p < 5 → bt (fld (fun i a => if c i = true then or32 a (shl32 1 i) else a) m k a) p = if k ≤ p ∧ p < k + m ∧ c p = true then 1 else bt a p
  | 0, k, a, k0, hk, ha => ⟨ha, fun p p0 p1 => by rw [if_neg (by omega)]; rfl⟩
  | m + 1, k, a, k0, hk, ha => by
    unfold fld
    have ob := or_b ha (i := k) ⟨k0, by omega⟩
    have bb := (bit_or (x := a) (k := k) ⟨ha.1, by omega⟩ ⟨k0, by omega⟩).2
    cases hc : c k with
    | true =>
      rw [if_pos rfl]
      obtain ⟨r, e⟩ := fld_bits m (k + 1) _ (by omega) (by omega) ob
      refine ⟨r, fun p p0 p1 => ?_⟩
      have b1 : bt (or32 a (shl32 1 k)) p = if p = k then 1 else bt a p := bb p p0 (by omega)
      rw [e p p0 p1, b1]
      by_cases y : p = k
      · rw [if_neg (by omega), if_pos y, if_pos ⟨by omega, by omega, by rw [y]; exact hc⟩]
      · by_cases u : k + 1 ≤ p ∧ p < k + 1 + (m : Int) ∧ c p = true
        · rw [if_pos u, if_pos ⟨by omega, by omega, u.2.2⟩]
        · rw [if_neg u, if_neg y, if_neg (fun v => u ⟨by omega, by omega, v.2.2⟩)]
    | false =>
      rw [if_neg (by decide)]
      obtain ⟨r, e⟩ := fld_bits m (k + 1) a (by omega) (by omega) ha
      refine ⟨r, fun p p0 p1 => ?_⟩
      rw [e p p0 p1]
      by_cases u : k + 1 ≤ p ∧ p < k + 1 + (m : Int) ∧ c p = true
      · rw [if_pos u, if_pos ⟨by omega, by omega, u.2.2⟩]
      · rw [if_neg u, if_neg (fun v => by
          by_cases y : p = k
          · rw [y, hc] at v; exact absurd v.2.2 (by decide)
          · exact u ⟨by omega, by omega, v.2.2⟩)]
theorem bt0 (p : Int) : bt 0 p = 0 := by unfold bt shr32; rw [Int.zero_ediv]; decide
def qTk (T S : Wd) (p i : Int) : Bool := qLiv S i && !sHas T S i (T 13 p)
theorem mbit_q {T S : Wd} (hT : TOK T) {p s i : Int} (hs : 0 ≤ s ∧ s < 32) (hi : 0 ≤ i ∧ i < 5) : mbit T S p s i = true ↔ S 9 p = -2 ∧ i < T 1 0 ∧ bt s i = 0 ∧ qTk T S p i = true := by
  have t1 := hT.2.1
  obtain ⟨r, e⟩ := fld_bits (c := fun i => qTk T S p i) (T 1 0).toNat 0 0 (by decide) (by omega) ⟨by decide, by decide⟩
  have e := e i hi.1 hi.2
  unfold mbit sTkr
  by_cases q : S 9 p = -2
  · have hx : fld (fun i a => if qLiv S i && !sHas T S i (T 13 p) then or32 a (shl32 1 i) else a) (T 1 0).toNat 0 0 = fld (fun i a => if qTk T S p i = true then or32 a (shl32 1 i) else a) (T 1 0).toNat 0 0 := rfl
    rw [if_pos q, hx, mb_b r hs hi, Bool.and_eq_true, decide_eq_true_eq, decide_eq_true_eq]
    show bt (fld (fun i a => if qTk T S p i = true then or32 a (shl32 1 i) else a) (T 1 0).toNat 0 0) i = 1 ∧ _ ↔ _
    rw [e]
    by_cases y : 0 ≤ i ∧ i < 0 + (((T 1 0).toNat : Nat) : Int) ∧ qTk T S p i = true
    · rw [if_pos y]; exact ⟨fun v => ⟨q, by omega, v.2, y.2.2⟩, fun v => ⟨rfl, v.2.2.1⟩⟩
    · rw [if_neg y, bt0]; exact ⟨fun v => absurd v.1 (by decide), fun v => absurd ⟨hi.1, by omega, v.2.2.2⟩ y⟩
  · rw [if_neg q, mb_b ⟨by decide, by decide⟩ hs hi, Bool.and_eq_true, decide_eq_true_eq, bt0]
    exact ⟨fun v => absurd v.1 (by decide), fun v => absurd v.1 q⟩
theorem fmx {f : Int → Bool} {g : Int → Int} : ∀ (m : Nat) (k v : Int), v ≤ fld (fun i v => if f i = true then imax v (g i) else v) m k v ∧ (∀ i, k ≤ i → i < k + m → f i = true → g i ≤ fld (fun i v => if f i = true then imax v (g i) else v) m k v) ∧ (fld (fun i v => if f i = true then imax v (g i) else v) m k v = v ∨ ∃ i, k ≤ i ∧ i < k + m ∧ f i = true ∧ g i = fld (fun i v => if f i = true then imax v (g i) else v) m k v)
  | 0, k, v => ⟨Int.le_refl _, fun i i0 i1 _ => absurd i1 (by omega), Or.inl rfl⟩
  | m + 1, k, v => by
    unfold fld
    cases hf : f k with
    | true =>
      rw [if_pos rfl]
      obtain ⟨a1, a2, a3⟩ := fmx (f := f) (g := g) m (k + 1) (imax v (g k))
      generalize fld (fun i v => if f i = true then imax v (g i) else v) m (k + 1) (imax v (g k)) = R at *
      have i1 : v ≤ imax v (g k) := by unfold imax; split <;> omega
      have i2 : g k ≤ imax v (g k) := by unfold imax; split <;> omega
      have i3 : imax v (g k) = v ∨ imax v (g k) = g k := by unfold imax; split <;> simp
      refine ⟨by omega, fun i j0 j1 hi => ?_, ?_⟩
      · by_cases y : i = k
        · rw [y]; omega
        · exact a2 i (by omega) (by omega) hi
      · rcases a3 with u | ⟨i, j0, j1, j2, j3⟩
        · rcases i3 with x | x
          · exact Or.inl (u.trans x)
          · exact Or.inr ⟨k, by omega, by omega, hf, (u.trans x).symm⟩
        · exact Or.inr ⟨i, by omega, by omega, j2, j3⟩
    | false =>
      rw [if_neg (by decide)]
      obtain ⟨a1, a2, a3⟩ := fmx (f := f) (g := g) m (k + 1) v
      refine ⟨a1, fun i j0 j1 hi => ?_, ?_⟩
      · by_cases y : i = k
        · rw [y, hf] at hi; exact absurd hi (by decide)
        · exact a2 i (by omega) (by omega) hi
      · rcases a3 with u | ⟨i, j0, j1, j2, j3⟩
        · exact Or.inl u
        · exact Or.inr ⟨i, by omega, by omega, j2, j3⟩
theorem mst_b {T S : Wd} : ∀ (m : Nat) (p s : Int), (m : Int) ≤ 100 → 0 ≤ mst T S m p s ∧ mst T S m p s ≤ m
  | 0, p, s, _ => ⟨Int.le_refl _, Int.le_refl _⟩
  | m + 1, p, s, hm => by
    have i0 := mst_b (T := T) (S := S) m (p + 1) s (by omega)
    obtain ⟨a1, a2, a3⟩ := fmx (f := fun i => mbit T S p s i) (g := fun i => w32 (1 + mst T S m (p + 1) (or32 s (shl32 1 i)))) 5 0 (mst T S m (p + 1) s)
    unfold mst
    refine ⟨by omega, ?_⟩
    rcases a3 with u | ⟨i, j0, j1, j2, j3⟩
    · omega
    · have i1 := mst_b (T := T) (S := S) m (p + 1) (or32 s (shl32 1 i)) (by omega)
      have : w32 (1 + mst T S m (p + 1) (or32 s (shl32 1 i))) = 1 + mst T S m (p + 1) (or32 s (shl32 1 i)) := by unfold w32; omega
      omega
theorem fnd_1 {f : Int → Bool} : ∀ (n : Nat) (k r : Int), k ≤ r → r < k + n → f r = true → (∀ i, k ≤ i → i < r → f i = false) → fnd f n k = r
  | 0, k, r, h0, h1, _, _ => absurd h1 (by omega)
  | n + 1, k, r, h0, h1, hf, hn => by
    unfold fnd
    by_cases y : k = r
    · rw [y, hf, if_pos rfl]
    · rw [hn k (Int.le_refl _) (by omega), if_neg (by decide)]
      exact fnd_1 n (k + 1) r (by omega) (by omega) hf (fun i i0 i1 => hn i (by omega) i1)
theorem fnd_0 {f : Int → Bool} (n : Nat) (k : Int) (hn : ∀ i, k ≤ i → i < k + n → f i = false) : fnd f n k = -1 := by
  rcases fnd_rng (f := f) n k with q | ⟨q1, q2, q3⟩
  · exact q
  · rw [hn _ q1 q2] at q3; cases q3
def gv (T S : Wd) (m : Nat) (p s i : Int) : Int := 1 + mst T S m (p + 1) (or32 s (shl32 1 i))
theorem gv_w {T S : Wd} {m : Nat} (hm : (m : Int) ≤ 50) (p s i : Int) : w32 (1 + mst T S m (p + 1) (or32 s (shl32 1 i))) = gv T S m p s i := by
  have := mst_b (T := T) (S := S) m (p + 1) (or32 s (shl32 1 i)) (by omega)
  unfold gv w32; omega
theorem sLst_1 {T S : Wd} {m : Nat} (hm : (m : Int) ≤ 50) {p s r : Int} (hr : 0 ≤ r ∧ r < 5) (hb : mbit T S p s r = true) (hv : gv T S m p s r = mst T S (m + 1) p s) (hf : ∀ i, 0 ≤ i → i < r → mbit T S p s i = true → gv T S m p s i < gv T S m p s r) : sLst T S m p s = r := by
  unfold sLst
  dsimp only
  have : fnd (fun i => mbit T S p s i && decide (w32 (1 + mst T S m (p + 1) (or32 s (shl32 1 i))) = mst T S (m + 1) p s)) 5 0 = r := by
    refine fnd_1 5 0 r hr.1 (by omega) ?_ (fun i i0 i1 => ?_)
    · rw [gv_w hm, hb, hv]; simp
    · rw [gv_w hm]
      cases hi : mbit T S p s i with
      | false => rfl
      | true => rw [decide_eq_false (by have := hf i i0 i1 hi; omega)]; rfl
  rw [this, if_neg (by omega)]
theorem sLst_0 {T S : Wd} {m : Nat} (hm : (m : Int) ≤ 50) {p s : Int} (hf : ∀ i, 0 ≤ i → i < 5 → mbit T S p s i = true → gv T S m p s i < mst T S (m + 1) p s) : sLst T S m p s = -2 := by
  unfold sLst
  dsimp only
  have : fnd (fun i => mbit T S p s i && decide (w32 (1 + mst T S m (p + 1) (or32 s (shl32 1 i))) = mst T S (m + 1) p s)) 5 0 = -1 := by
    refine fnd_0 5 0 (fun i i0 i1 => ?_)
    rw [gv_w hm]
    cases hi : mbit T S p s i with
    | false => rfl
    | true => rw [decide_eq_false (by have := hf i i0 (by omega) hi; omega)]; rfl
  rw [this, if_pos rfl]
theorem mst_x {T S : Wd} {m : Nat} (hm : (m : Int) ≤ 50) (p s : Int) : mst T S m (p + 1) s ≤ mst T S (m + 1) p s ∧ (∀ i, 0 ≤ i → i < 5 → mbit T S p s i = true → gv T S m p s i ≤ mst T S (m + 1) p s) ∧ (mst T S (m + 1) p s = mst T S m (p + 1) s ∨ ∃ i, 0 ≤ i ∧ i < 5 ∧ mbit T S p s i = true ∧ gv T S m p s i = mst T S (m + 1) p s) := by
  have e : mst T S (m + 1) p s = fld (fun i v => if mbit T S p s i = true then imax v (gv T S m p s i) else v) 5 0 (mst T S m (p + 1) s) := by
    show fld (fun i v => if mbit T S p s i then imax v (w32 (1 + mst T S m (p + 1) (or32 s (shl32 1 i)))) else v) 5 0 (mst T S m (p + 1) s) = _
    refine fld_ext 5 0 _ (fun i b _ _ => ?_)
    rw [gv_w hm]
  obtain ⟨a1, a2, a3⟩ := fmx (f := fun i => mbit T S p s i) (g := fun i => gv T S m p s i) 5 0 (mst T S m (p + 1) s)
  rw [← e] at a1 a2 a3
  exact ⟨a1, fun i i0 i1 => a2 i i0 (by omega), a3.imp id (fun ⟨i, i0, i1, i2⟩ => ⟨i, i0, by omega, i2⟩)⟩
def enc (v : Int) : Int := if v = -2 then -1 else v
section MA
variable {h h' : Hp} {z : Zt} {n : Int}
def FT (n : Int) (z : Zt) (p : Int) (h h' : Hp) : Prop := RR n h' z ∧ FrM h h' ∧ ∀ x j, ¬ (x = 311 ∧ j = 66) → ¬ (x = 350 ∧ p ≤ j) → x ≠ 351 → ld h' x j = ld h x j
theorem FT_tr {p q : Int} {h h1 h2 : Hp} (f : FT n z p h h1) (g : FT n z q h1 h2) (e : p ≤ q) : FT n z p h h2 := ⟨g.1, FrM_tr f.2.1 g.2.1, fun x j e1 e2 e3 => (g.2.2 x j e1 (by omega) e3).trans (f.2.2 x j e1 e2 e3)⟩
theorem FT_350 (c : RR n h z) {p j v : Int} (hj : p ≤ j) : FT n z p h (st h 350 j v) := ⟨RR_keep c (wf_st c.k.w (npt_A (by decide +kernel) j)) (fun x i e => ld_st_ne (by unfold rz at e; omega)), FrM_st FrM_rf (by decide) _ _, fun x i e1 e2 e3 => ld_st_ne (by omega)⟩
theorem FT_351 (c : RR n h z) (p j v : Int) : FT n z p h (st h 351 j v) := ⟨RR_keep c (wf_st c.k.w (npt_A (by decide +kernel) j)) (fun x i e => ld_st_ne (by unfold rz at e; omega)), FrM_st FrM_rf (by decide) _ _, fun x i e1 e2 e3 => ld_st_ne (by omega)⟩
theorem FT_66 (c : RR n h z) (p v : Int) : FT n z p h (st h 311 66 v) := ⟨RR_keep c (wf_st c.k.w (npt_J (by decide +kernel))) (fun x i e => ld_st_ne (by unfold rz at e; omega)), FrM_st FrM_rf (by decide) _ _, fun x i e1 e2 e3 => ld_st_ne (by omega)⟩
theorem FT_rf (c : RR n h z) (p : Int) : FT n z p h h := ⟨c, FrM_rf, fun _ _ _ _ _ => rfl⟩
theorem rk_221 (c : RR n h z) (x f : Int) (d : Nat) : C d 221 [(2, 311), (0, x), (0, f)] h = some ((0, bI (sHas z.T z.S x f)), h) := by
  have w := c.k.w
  have t2 := c.k.K.2.2.1
  rw [ce_221, e221_0]
  unfold sHas
  have key : ∀ (m : Nat) (k : Int), 0 ≤ k → k + m = z.T 2 0 → V d 221 2 [(2, 311), (0, x), (0, f), (0, k)] [] h = some ((0, bI (anyf (fun k => decide (z.S 9 k = x) && decide (z.T 13 k = f)) m k)), h) := by
    intro m
    induction m with
    | zero =>
      intro k k0 hk
      rw [e221_2, if_pos (F_a311 w), P_311_3 w, if_pos (F_a313 w), L_a313 w, if_pos (by decide), rt2 c.k.1, if_neg (by omega), e221_40, if_pos (Or.inl rfl)]; rfl
    | succ m ih =>
      intro k k0 hk
      have hp : 0 ≤ k ∧ k < z.T 2 0 := ⟨k0, by omega⟩
      have e9 : ld h 341 k = z.S 9 k := by
        have := rs9 c.k hp
        rw [show 10 * (0 : Int) + k = k by omega] at this; exact this
      have wk : w32 (k + 1) = k + 1 := by unfold w32; omega
      have e34 : V d 221 34 [(2, 311), (0, x), (0, f), (0, k)] [] h = some ((0, bI (anyf (fun k => decide (z.S 9 k = x) && decide (z.T 13 k = f)) m (k + 1))), h) := by
        rw [e221_34, wk]; exact ih (k + 1) (by omega) (by omega)
      have es : anyf (fun k => decide (z.S 9 k = x) && decide (z.T 13 k = f)) (m + 1) k = ((decide (z.S 9 k = x) && decide (z.T 13 k = f)) || anyf (fun k => decide (z.S 9 k = x) && decide (z.T 13 k = f)) m (k + 1)) := rfl
      rw [es, e221_2, if_pos (F_a311 w), P_311_3 w, if_pos (F_a313 w), L_a313 w, if_pos (by decide), rt2 c.k.1, if_pos hp.2, e221_12, if_pos (F_a311 w), P_311_44 w, if_pos (F_a341 w), L_a341 w, if_pos (by omega), e9]
      by_cases q : z.S 9 k = x
      · rw [if_pos q, e221_22, if_pos (F_a311 w), P_311_13 w, if_pos (F_a323 w), L_a323 w, if_pos (by omega), rt13 c.k.1 hp, decide_eq_true q, Bool.true_and]
        by_cases q2 : z.T 13 k = f
        · rw [if_pos q2, decide_eq_true q2, e221_32, if_pos (Or.inr rfl), Bool.true_or]; rfl
        · rw [if_neg q2, decide_eq_false q2, Bool.false_or]; exact e34
      · rw [if_neg q, decide_eq_false q, Bool.false_and, Bool.false_or]; exact e34
  exact key (z.T 2 0).toNat 0 (by decide) (by omega)
/-- what one part of the search leaves behind -/
def DF (z : Zt) (N : Nat) (m : Nat) (p s k : Int) (h h' : Hp) : Prop :=
  (ld h 311 66 < k + mst z.T z.S m p s → ld h' 311 66 = k + mst z.T z.S m p s ∧ (∀ q, 0 ≤ q → q < p → ld h' 351 q = ld h 350 q) ∧ ∀ q, p ≤ q → q < N → ld h' 351 q = enc (mtk z.T z.S m p s q)) ∧
  (¬ ld h 311 66 < k + mst z.T z.S m p s → ld h' 311 66 = ld h 311 66 ∧ ∀ q, ld h' 351 q = ld h 351 q)
theorem df_cp (d : Nat) {p : Int} (hp : p ≤ 10) : ∀ (m : Nat) (i : Int) (h : Hp), RR n h z → 0 ≤ i → i + m = p → ∃ h', V d 222 27 [(2, 311), (0, p), (9, 0), (9, 0), (0, i)] [] h = some ((9, 0), h') ∧ RR n h' z ∧ FrM h h' ∧ (∀ x j, x ≠ 351 → ld h' x j = ld h x j) ∧ (∀ q, q < i → ld h' 351 q = ld h 351 q) ∧ ∀ q, i ≤ q → q < p → ld h' 351 q = ld h 350 q
  | 0, i, h, c, i0, hi => by
    refine ⟨h, ?_, c, FrM_rf, fun _ _ _ => rfl, fun _ _ => rfl, fun q q0 q1 => absurd q1 (by omega)⟩
    rw [e222_27, if_neg (by omega), e222_53]
  | m + 1, i, h, c, i0, hi => by
    have w := c.k.w
    obtain ⟨c1, f1, g1⟩ := FT_351 c 0 i (ld h 350 i)
    obtain ⟨h', a1, a2, a3, a4, a5, a6⟩ := df_cp d hp m (i + 1) _ c1 (by omega) (by omega)
    refine ⟨h', ?_, a2, FrM_tr f1 a3, fun x j e => (a4 x j e).trans (ld_st_ne (Or.inl e)), fun q q0 => (a5 q (by omega)).trans (ld_st_ne (Or.inr (by omega))), fun q q0 q1 => ?_⟩
    · rw [e222_27, if_pos (by omega), if_pos (F_a311 w), P_311_65 w, if_pos (F_a311 w), P_311_64 w, if_pos (F_a350 w), L_a350 w, if_pos (by omega), if_pos (W_a351 w), L_a351 w, if_pos (by omega), e222_47, show w32 (i + 1) = i + 1 by unfold w32; omega, a1]
    · by_cases y : q = i
      · rw [y, a5 i (by omega), ld_st_eq]
      · exact (a6 q (by omega) q1).trans (ld_st_ne (Or.inl (by decide)))
def MI (z : Zt) (N : Nat) (m : Nat) (p s k : Int) (h : Hp) (i : Int) (h1 : Hp) : Prop :=
  (ld h1 311 66 = ld h 311 66 ∧ (∀ q, ld h1 351 q = ld h 351 q) ∧ ∀ i', 0 ≤ i' → i' < i → mbit z.T z.S p s i' = true → k + gv z.T z.S m p s i' ≤ ld h 311 66) ∨
  (∃ r, (0 ≤ r ∧ r < i) ∧ mbit z.T z.S p s r = true ∧ ld h 311 66 < k + gv z.T z.S m p s r ∧ (∀ i', 0 ≤ i' → i' < i → mbit z.T z.S p s i' = true → gv z.T z.S m p s i' ≤ gv z.T z.S m p s r) ∧ (∀ i', 0 ≤ i' → i' < r → mbit z.T z.S p s i' = true → gv z.T z.S m p s i' < gv z.T z.S m p s r) ∧ ld h1 311 66 = k + gv z.T z.S m p s r ∧ (∀ q, 0 ≤ q → q < p → ld h1 351 q = ld h 350 q) ∧ ld h1 351 p = r ∧ ∀ q, p < q → q < N → ld h1 351 q = enc (mtk z.T z.S m (p + 1) (or32 s (shl32 1 r)) q))
theorem MI_up {N m : Nat} {p s k i i2 : Int} {h1 : Hp} (a : MI z N m p s k h i h1) (e : i ≤ i2) (no : ∀ j, i ≤ j → j < i2 → mbit z.T z.S p s j = false) : MI z N m p s k h i2 h1 := by
  rcases a with ⟨a1, a2, a3⟩ | ⟨r, a1, a2, a3, a4, a5⟩
  · refine Or.inl ⟨a1, a2, fun j j0 j1 hj => ?_⟩
    by_cases y : j < i
    · exact a3 j j0 y hj
    · rw [no j (by omega) j1] at hj; cases hj
  · refine Or.inr ⟨r, by omega, a2, a3, fun j j0 j1 hj => ?_, a5⟩
    by_cases y : j < i
    · exact a4 j j0 y hj
    · rw [no j (by omega) j1] at hj; cases hj
theorem df_loop {N m : Nat} (hN : z.T 2 0 = N) {p s k : Int} (hp : 0 ≤ p ∧ p + m + 1 = N) (hs : 0 ≤ s ∧ s < 32) (hk : 0 ≤ k ∧ k ≤ p) (d : Nat) (ih : ∀ (s' k' : Int) (h1 : Hp), RR n h1 z → (0 ≤ s' ∧ s' < 32) → (0 ≤ k' ∧ k' ≤ p + 1) → ∃ h', C d 222 [(2, 311), (0, p + 1), (0, s'), (0, k')] h1 = some ((9, 0), h') ∧ FT n z (p + 1) h1 h' ∧ DF z N m (p + 1) s' k' h1 h') : ∀ (j : Nat) (i : Int) (h1 : Hp), 0 ≤ i → i + j = z.T 1 0 → FT n z p h h1 → MI z N m p s k h i h1 → ∃ h2, V (d + 1) 222 64 [(2, 311), (0, p), (0, s), (0, k), (0, i)] [] h1 = V (d + 1) 222 154 [(2, 311), (0, p), (0, s), (0, k), (9, 0)] [] h2 ∧ FT n z p h h2 ∧ MI z N m p s k h 5 h2
  | 0, i, h1, i0, hi, f, a => by
    have w := f.1.k.w
    have t1 := f.1.k.K.2.1
    refine ⟨h1, ?_, f, MI_up a (by omega) (fun j j0 j1 => ?_)⟩
    · rw [e222_64, if_pos (F_a311 w), P_311_3 w, if_pos (F_a313 w), L_a313 w, if_pos (by decide), rt1 f.1.k.1, if_neg (by omega)]
    · cases hj : mbit z.T z.S p s j with
      | false => rfl
      | true =>
        have := (mbit_q f.1.k.K hs (i := j) ⟨by omega, j1⟩).mp hj
        omega
  | j + 1, i, h1, i0, hi, f, a => by
    have c := f.1
    have w := c.k.w
    have t1 := c.k.K.2.1
    have t2 := c.k.K.2.2.1
    have hpp : 0 ≤ p ∧ p < z.T 2 0 := by omega
    have e9 : ld h1 341 p = z.S 9 p := by
      have := rs9 c.k hpp
      rw [show 10 * (0 : Int) + p = p by omega] at this; exact this
    have mq := mbit_q (S := z.S) c.k.K (p := p) hs (i := i) ⟨i0, by omega⟩
    have wi : w32 (i + 1) = i + 1 := by unfold w32; omega
    have e64 : V (d + 1) 222 64 [(2, 311), (0, p), (0, s), (0, k), (0, i)] [] h1 = if z.S 9 p = -2 then V (d + 1) 222 86 [(2, 311), (0, p), (0, s), (0, k), (0, i)] [] h1 else V (d + 1) 222 154 [(2, 311), (0, p), (0, s), (0, k), (9, 0)] [] h1 := by
      rw [e222_64, if_pos (F_a311 w), P_311_3 w, if_pos (F_a313 w), L_a313 w, if_pos (by decide), rt1 c.k.1, if_pos (by omega), e222_75, if_pos (F_a311 w), P_311_44 w, if_pos (F_a341 w), L_a341 w, if_pos (by omega), e9]
    rw [e64]
    by_cases q9 : z.S 9 p = -2
    · rw [if_pos q9, e222_86]
      have go : ∀ h2, FT n z p h h2 → MI z N m p s k h (i + 1) h2 → ∃ h3, V (d + 1) 222 148 [(2, 311), (0, p), (0, s), (0, k), (0, i)] [] h2 = V (d + 1) 222 154 [(2, 311), (0, p), (0, s), (0, k), (9, 0)] [] h3 ∧ FT n z p h h3 ∧ MI z N m p s k h 5 h3 := fun h2 f2 a2 => by
        obtain ⟨h3, b1, b2, b3⟩ := df_loop hN hp hs hk d ih j (i + 1) h2 (by omega) (by omega) f2 a2
        exact ⟨h3, by rw [e222_148, wi, b1], b2, b3⟩
      have sk : mbit z.T z.S p s i = false → MI z N m p s k h (i + 1) h1 := fun e => MI_up a (by omega) (fun j j0 j1 => by rw [show j = i by omega]; exact e)
      by_cases qb : and32 (shr32 s i) 1 = 1
      · rw [if_pos qb]
        refine go h1 f (sk ?_)
        cases hj : mbit z.T z.S p s i with
        | false => rfl
        | true => have := (mq.mp hj).2.2.1; unfold bt at this; omega
      · have b0 : bt s i = 0 := (bt_b s i).resolve_right qb
        rw [if_neg qb, e222_96, if_pos (F_a311 w), Cl_eq _ (rk_183 c.k i d)]
        cases hl : qLiv z.S i with
        | false =>
          rw [if_pos bI_f]
          refine go h1 f (sk ?_)
          cases hj : mbit z.T z.S p s i with
          | false => rfl
          | true => have := (mq.mp hj).2.2.2; unfold qTk at this; rw [hl] at this; cases this
        | true =>
          rw [if_neg (by decide), e222_106, if_pos (F_a311 w), P_311_13 w, if_pos (F_a323 w), L_a323 w, if_pos (by omega), rt13 c.k.1 hpp, if_pos (F_a311 w), Cl_eq _ (rk_221 c i (z.T 13 p) d)]
          cases hh : sHas z.T z.S i (z.T 13 p) with
          | true =>
            rw [if_neg (by decide), e222_121]
            refine go h1 f (sk ?_)
            cases hj : mbit z.T z.S p s i with
            | false => rfl
            | true => have := (mq.mp hj).2.2.2; unfold qTk at this; rw [hh, Bool.not_true, Bool.and_false] at this; cases this
          | false =>
            have hm : mbit z.T z.S p s i = true := mq.mpr ⟨q9, by omega, b0, by unfold qTk; rw [hl, hh]; rfl⟩
            have f2 : FT n z p h1 (st h1 350 p i) := FT_350 c (Int.le_refl _)
            have ob := or_b hs (i := i) ⟨i0, by omega⟩
            obtain ⟨h2, x1, x2, x3, x4⟩ := ih (or32 s (shl32 1 i)) (k + 1) _ f2.1 ob (by omega)
            have l66 : ld (st h1 350 p i) 311 66 = ld h1 311 66 := ld_st_ne (Or.inl (by decide))
            have eg : k + 1 + mst z.T z.S m (p + 1) (or32 s (shl32 1 i)) = k + gv z.T z.S m p s i := by unfold gv; omega
            have hmm : (m : Int) ≤ 50 := by omega
            rw [l66, eg] at x3 x4
            rw [if_pos bI_f, e222_124, if_pos (F_a311 w), P_311_64 w, if_pos (W_a350 w), L_a350 w, if_pos (by omega), e222_132, if_pos (F_a311 f2.1.k.w), show w32 (p + 1) = p + 1 by unfold w32; omega, show w32 (k + 1) = k + 1 by unfold w32; omega, Cl_eq _ x1]
            have f3 : FT n z p h h2 := FT_tr f (FT_tr f2 x2 (by omega)) (Int.le_refl _)
            refine go h2 f3 ?_
            have base : ∀ q, 0 ≤ q → q < p → ld h1 350 q = ld h 350 q := fun q q0 q1 => f.2.2 350 q (by omega) (by omega) (by decide)
            by_cases qi : ld h1 311 66 < k + gv z.T z.S m p s i
            · obtain ⟨y1, y2, y3⟩ := x3 qi
              have hb : ld h 311 66 < k + gv z.T z.S m p s i ∧ ∀ i', 0 ≤ i' → i' < i → mbit z.T z.S p s i' = true → gv z.T z.S m p s i' < gv z.T z.S m p s i := by
                rcases a with ⟨a1, a2, a3⟩ | ⟨r, a1, a2, a3, a4, a5, a6, a7⟩
                · exact ⟨by omega, fun i' j0 j1 hj => by have := a3 i' j0 j1 hj; omega⟩
                · exact ⟨by omega, fun i' j0 j1 hj => by have := a4 i' j0 j1 hj; omega⟩
              refine Or.inr ⟨i, by omega, hm, hb.1, fun i' j0 j1 hj => ?_, hb.2, y1, fun q q0 q1 => ?_, ?_, fun q q0 q1 => y3 q (by omega) q1⟩
              · by_cases u : i' = i
                · rw [u]; exact Int.le_refl _
                · exact Int.le_of_lt (hb.2 i' j0 (by omega) hj)
              · exact (y2 q q0 (by omega)).trans ((ld_st_ne (Or.inr (by omega))).trans (base q q0 q1))
              · rw [y2 p hp.1 (by omega), ld_st_eq]
            · obtain ⟨y1, y2⟩ := x4 qi
              have l351 : ∀ q, ld h2 351 q = ld h1 351 q := fun q => (y2 q).trans (ld_st_ne (Or.inl (by decide)))
              rcases a with ⟨a1, a2, a3⟩ | ⟨r, a1, a2, a3, a4, a5, a6, a7, a8, a9⟩
              · refine Or.inl ⟨by omega, fun q => (l351 q).trans (a2 q), fun i' j0 j1 hj => ?_⟩
                by_cases u : i' = i
                · rw [u]; omega
                · exact a3 i' j0 (by omega) hj
              · refine Or.inr ⟨r, by omega, a2, a3, fun i' j0 j1 hj => ?_, a5, by omega, fun q q0 q1 => (l351 q).trans (a7 q q0 q1), (l351 p).trans a8, fun q q0 q1 => (l351 q).trans (a9 q q0 q1)⟩
                by_cases u : i' = i
                · rw [u]; omega
                · exact a4 i' j0 (by omega) hj
    · rw [if_neg q9]
      refine ⟨h1, rfl, f, MI_up a (by omega) (fun j j0 j1 => ?_)⟩
      cases hj : mbit z.T z.S p s j with
      | false => rfl
      | true => exact absurd ((mbit_q c.k.K hs (i := j) ⟨by omega, j1⟩).mp hj).1 q9
theorem rk_222 {N : Nat} (hN : z.T 2 0 = N) : ∀ (m : Nat) (p s k : Int) (h : Hp) (d : Nat), RR n h z → 0 ≤ p → p + m = N → (0 ≤ s ∧ s < 32) → (0 ≤ k ∧ k ≤ p) → ∃ h', C (d + m) 222 [(2, 311), (0, p), (0, s), (0, k)] h = some ((9, 0), h') ∧ FT n z p h h' ∧ DF z N m p s k h h'
  | 0, p, s, k, h, d, c, p0, hp, hs, hk => by
    have w := c.k.w
    have t2 := c.k.K.2.2.1
    have e0 : C (d + 0) 222 [(2, 311), (0, p), (0, s), (0, k)] h = if ld h 311 66 < k then V (d + 0) 222 19 [(2, 311), (0, p), (9, 0), (0, k), (9, 0)] [] h else some ((9, 0), h) := by
      rw [ce_222, e222_0, if_pos (F_a311 w), P_311_3 w, if_pos (F_a313 w), L_a313 w, if_pos (by decide), rt2 c.k.1, if_pos (by omega), e222_10, if_pos (F_a311 w)]
    have m0 : k + mst z.T z.S 0 p s = k := by show k + 0 = k; omega
    unfold DF
    rw [e0, m0]
    by_cases q : ld h 311 66 < k
    · obtain f1 := FT_66 c p k
      obtain ⟨h', a1, a2, a3, a4, a5, a6⟩ := df_cp (d + 0) (p := p) (by omega) p.toNat 0 _ f1.1 (by decide) (by omega)
      refine ⟨h', ?_, ⟨a2, FrM_tr f1.2.1 a3, fun x j e1 e2 e3 => (a4 x j e3).trans (f1.2.2 x j e1 e2 e3)⟩, fun _ => ⟨?_, fun q q0 q1 => (a6 q q0 q1).trans (ld_st_ne (Or.inl (by decide))), fun q q0 q1 => absurd q1 (by omega)⟩, fun u => absurd q u⟩
      · rw [if_pos q, e222_19, if_pos (W_a311 w), a1]
      · rw [a4 311 66 (by decide), ld_st_eq]
    · exact ⟨h, by rw [if_neg q], FT_rf c p, fun u => absurd u q, fun _ => ⟨rfl, fun _ => rfl⟩⟩
  | m + 1, p, s, k, h, d, c, p0, hp, hs, hk => by
    have w := c.k.w
    have t1 := c.k.K.2.1
    have t2 := c.k.K.2.2.1
    have hmm : (m : Int) ≤ 50 := by omega
    have f0 : FT n z p h (st h 350 p (-1)) := FT_350 c (Int.le_refl _)
    have l0 : ld (st h 350 p (-1)) 311 66 = ld h 311 66 := ld_st_ne (Or.inl (by decide))
    have a0 : MI z N m p s k h 0 (st h 350 p (-1)) := Or.inl ⟨l0, fun q => ld_st_ne (Or.inl (by decide)), fun i' j0 j1 _ => absurd j1 (by omega)⟩
    obtain ⟨h2, b1, b2, b3⟩ := df_loop (n := n) (h := h) hN (m := m) (p := p) (s := s) (k := k) ⟨p0, by omega⟩ hs hk (d + m) (fun s' k' h1 c1 hs' hk' => rk_222 hN m (p + 1) s' k' h1 d c1 (by omega) (by omega) hs' hk') (z.T 1 0).toNat 0 _ (by decide) (by omega) f0 a0
    have w2 := b2.1.k.w
    have f3 : FT n z p h2 (st h2 350 p (-1)) := FT_350 b2.1 (Int.le_refl _)
    obtain ⟨h4, x1, x2, x3, x4⟩ := rk_222 hN m (p + 1) s k _ d f3.1 (by omega) (by omega) hs (by omega)
    have l3 : ld (st h2 350 p (-1)) 311 66 = ld h2 311 66 := ld_st_ne (Or.inl (by decide))
    rw [l3] at x3 x4
    have e0 : C (d + (m + 1)) 222 [(2, 311), (0, p), (0, s), (0, k)] h = some ((9, 0), h4) := by
      show C ((d + m) + 1) 222 _ h = _
      rw [ce_222, e222_0, if_pos (F_a311 w), P_311_3 w, if_pos (F_a313 w), L_a313 w, if_pos (by decide), rt2 c.k.1, if_neg (by omega), e222_54, if_pos (F_a311 w), P_311_64 w, if_pos (W_a350 w), L_a350 w, if_pos (by omega), e222_61, b1, e222_154, if_pos (F_a311 w2), P_311_64 w2, if_pos (W_a350 w2), L_a350 w2, if_pos (by omega), e222_161, if_pos (F_a311 f3.1.k.w), show w32 (p + 1) = p + 1 by unfold w32; omega, Cl_eq _ x1, e222_170]
    obtain ⟨v1, v2, v3⟩ := mst_x (T := z.T) (S := z.S) hmm p s
    have base : ∀ q, 0 ≤ q → q < p → ld h2 350 q = ld h 350 q := fun q q0 q1 => b2.2.2 350 q (by omega) (by omega) (by decide)
    refine ⟨h4, e0, FT_tr b2 (FT_tr f3 x2 (by omega)) (Int.le_refl _), ?_⟩
    have up : ld h2 311 66 < k + mst z.T z.S m (p + 1) s → ld h 311 66 < k + mst z.T z.S (m + 1) p s → (∀ i, 0 ≤ i → i < 5 → mbit z.T z.S p s i = true → gv z.T z.S m p s i < mst z.T z.S m (p + 1) s) → DF z N (m + 1) p s k h h4 := fun q u g => by
      obtain ⟨y1, y2, y3⟩ := x3 q
      have eV : mst z.T z.S (m + 1) p s = mst z.T z.S m (p + 1) s := by
        rcases v3 with e | ⟨i, i0, i1, i2, i3⟩
        · exact e
        · have := g i i0 i1 i2; omega
      have eL : sLst z.T z.S m p s = -2 := sLst_0 hmm (fun i i0 i1 hi => by rw [eV]; exact g i i0 i1 hi)
      refine ⟨fun _ => ⟨by rw [y1, eV], fun q q0 q1 => (y2 q q0 (by omega)).trans ((ld_st_ne (Or.inr (by omega))).trans (base q q0 q1)), fun q q0 q1 => ?_⟩, fun no => absurd u no⟩
      unfold mtk
      rw [eL, if_pos rfl]
      by_cases y : q = p
      · rw [if_pos y, y, y2 p p0 (by omega), ld_st_eq]; rfl
      · rw [if_neg y]; exact y3 q (by omega) q1
    rcases b3 with ⟨g1, g2, g3⟩ | ⟨r, r0, g1, g2, g3, g4, g5, g6, g7, g8⟩
    · by_cases q : ld h2 311 66 < k + mst z.T z.S m (p + 1) s
      · exact up q (by omega) (fun i i0 i1 hi => by have := g3 i i0 i1 hi; omega)
      · obtain ⟨y1, y2⟩ := x4 q
        have no : ¬ ld h 311 66 < k + mst z.T z.S (m + 1) p s := by
          rcases v3 with e | ⟨i, i0, i1, i2, i3⟩
          · omega
          · have := g3 i i0 i1 i2; omega
        exact ⟨fun u => absurd u no, fun _ => ⟨y1.trans g1, fun q => (y2 q).trans ((ld_st_ne (Or.inl (by decide))).trans (g2 q))⟩⟩
    · by_cases q : ld h2 311 66 < k + mst z.T z.S m (p + 1) s
      · exact up q (by omega) (fun i i0 i1 hi => by have := g3 i i0 i1 hi; omega)
      · obtain ⟨y1, y2⟩ := x4 q
        have eV : gv z.T z.S m p s r = mst z.T z.S (m + 1) p s := by
          have := v2 r r0.1 r0.2 g1
          rcases v3 with e | ⟨i, i0, i1, i2, i3⟩
          · omega
          · have := g3 i i0 i1 i2; omega
        have eL : sLst z.T z.S m p s = r := sLst_1 hmm r0 g1 eV g4
        have l351 : ∀ q, ld h4 351 q = ld h2 351 q := fun q => (y2 q).trans (ld_st_ne (Or.inl (by decide)))
        refine ⟨fun _ => ⟨by omega, fun q q0 q1 => (l351 q).trans (g6 q q0 q1), fun q q0 q1 => ?_⟩, fun no => absurd (by omega) no⟩
        unfold mtk
        rw [eL, if_neg (show ¬ r = -2 by omega), l351]
        by_cases y : q = p
        · rw [if_pos y, y, g7]; unfold enc; rw [if_neg (by omega)]
        · rw [if_neg y]; exact g8 q (by omega) q1
end MA
