/-! layer 2: the plain program reads a law -/
section LW2
variable {h : Hp} {tp : Int → Int} {n pl : Int} {T : Wd} {tw hl kn op ln : Int}
theorem tF_cl {k : Nat} : ∀ (L : List (Int × Int)) (T : Wd) (a : Int), (∀ i, T (19 + k) i = a) → 0 ≤ a → a + (L.length : Int) ≤ 64 → ∀ (f : Nat) (i : Int), tF T k L f i = if f = 19 + k then a + (L.length : Int) else if f = 22 + 2 * k ∧ a ≤ i ∧ i < a + (L.length : Int) then ksort (L.getD (i - a).toNat (0, 0)).1 else if f = 23 + 2 * k ∧ a ≤ i ∧ i < a + (L.length : Int) then kval (L.getD (i - a).toNat (0, 0)).1 (L.getD (i - a).toNat (0, 0)).2 else T f i
  | [], T, a, h19, a0, al, f, i => by
    show T f i = _
    have h0 : ((([] : List (Int × Int)).length : Nat) : Int) = 0 := rfl
    rw [h0]
    by_cases y : f = 19 + k
    · rw [if_pos y, y, h19]; omega
    · rw [if_neg y, if_neg (by omega), if_neg (by omega)]
  | x :: L, T, a, h19, a0, al, f, i => by
    have hl : (((x :: L).length : Nat) : Int) = (L.length : Int) + 1 := by rw [List.length_cons]; omega
    rw [hl] at al ⊢
    have h64 : T (19 + k) 0 < 64 := by rw [h19]; omega
    have ih := tF_cl L (tKno T k x.1 x.2) (a + 1) (fun i => by unfold tKno; rw [if_pos rfl, h19]) (by omega) (by omega) f i
    have e : tF T k (x :: L) = tF (tKno T k x.1 x.2) k L := by
      show tF (tPut T k x.1 x.2) k L = _
      unfold tPut; rw [if_pos h64]
    have gd : a + 1 ≤ i → (x :: L).getD (i - a).toNat (0, 0) = L.getD (i - (a + 1)).toNat (0, 0) := fun u => by
      rw [show (i - a).toNat = (i - (a + 1)).toNat + 1 by omega]; rfl
    have g0 : i = a → (x :: L).getD (i - a).toNat (0, 0) = x := fun u => by
      rw [show (i - a).toNat = 0 by omega]; rfl
    rw [e, ih]
    by_cases y : f = 19 + k
    · rw [if_pos y, if_pos y]; omega
    rw [if_neg y, if_neg y]
    unfold tKno
    rw [if_neg y, h19]
    by_cases y2 : f = 22 + 2 * k
    · rw [if_neg (show ¬ (f = 23 + 2 * k ∧ a + 1 ≤ i ∧ i < a + 1 + (L.length : Int)) by omega), if_neg (show ¬ (f = 23 + 2 * k ∧ a ≤ i ∧ i < a + ((L.length : Int) + 1)) by omega), if_neg (show ¬ (f = 23 + 2 * k ∧ i = a) by omega)]
      by_cases z1 : a + 1 ≤ i ∧ i < a + 1 + (L.length : Int)
      · rw [if_pos ⟨y2, z1⟩, if_pos ⟨y2, by omega, by omega⟩, gd z1.1]
      · rw [if_neg (fun u => z1 u.2)]
        by_cases z2 : i = a
        · rw [if_pos ⟨y2, z2⟩, if_pos ⟨y2, by omega, by omega⟩, g0 z2]
        · rw [if_neg (fun u => z2 u.2), if_neg (by omega)]
    · rw [if_neg (show ¬ (f = 22 + 2 * k ∧ a + 1 ≤ i ∧ i < a + 1 + (L.length : Int)) from fun u => y2 u.1), if_neg (show ¬ (f = 22 + 2 * k ∧ a ≤ i ∧ i < a + ((L.length : Int) + 1)) from fun u => y2 u.1), if_neg (show ¬ (f = 22 + 2 * k ∧ i = a) from fun u => y2 u.1)]
      by_cases y3 : f = 23 + 2 * k
      · by_cases z1 : a + 1 ≤ i ∧ i < a + 1 + (L.length : Int)
        · rw [if_pos ⟨y3, z1⟩, if_pos ⟨y3, by omega, by omega⟩, gd z1.1]
        · rw [if_neg (fun u => z1 u.2)]
          by_cases z2 : i = a
          · rw [if_pos ⟨y3, z2⟩, if_pos ⟨y3, by omega, by omega⟩, g0 z2]
          · rw [if_neg (fun u => z2 u.2), if_neg (by omega)]
      · rw [if_neg (fun u => y3 u.1), if_neg (fun u => y3 u.1), if_neg (fun u => y3 u.1)]
/-- the values of the tables say how many wait -/
theorem kdp_dp {so va : Int → Int} : ∀ (L : List (Int × Int)) (x : Int) (m : Nat), (∀ i : Nat, i < L.length → so (x + (i : Int)) = ksort (L.getD i (0, 0)).1 ∧ va (x + (i : Int)) = kval (L.getD i (0, 0)).1 (L.getD i (0, 0)).2) → dp L m = some 1 → kdp so va L.length x m = true
  | [], x, m, _, e => by rw [Option.some.inj e]; rfl
  | y :: L, x, m, hh, e => by
    have h0 := hh 0 (by simp)
    have e0 : so x = ksort y.1 ∧ va x = kval y.1 y.2 := by
      rw [show x + ((0 : Nat) : Int) = x by omega] at h0; exact h0
    have ih := fun m' => kdp_dp (so := so) (va := va) L (x + 1) m' (fun i hi => by
      have := hh (i + 1) (by rw [List.length_cons]; omega)
      rw [show x + ((i + 1 : Nat) : Int) = x + 1 + (i : Int) by omega] at this
      exact this)
    show (if so x = 0 ∨ so x = 1 then kdp so va L.length (x + 1) (m + 1) else if va x = 260 then decide (1 ≤ m) && kdp so va L.length (x + 1) m else decide (2 ≤ m) && kdp so va L.length (x + 1) (m - 1)) = true
    rw [e0.1, e0.2]
    unfold dp at e
    split at e
    · rename_i u; rw [if_pos u]; exact ih _ e
    · rename_i u
      rw [if_neg u]
      split at e
      · rename_i v
        rw [if_pos v]
        split at e
        · rename_i z; rw [decide_eq_true z, Bool.true_and]; exact ih _ e
        · cases e
      · rename_i v
        rw [if_neg v]
        split at e
        · rename_i z; rw [decide_eq_true z, Bool.true_and]; exact ih _ e
        · cases e
theorem TX_tF {T : Wd} {k : Nat} {L : List (Int × Int)} (tx : TX T) (hk : k < 3) (h19 : ∀ i, T (19 + k) i = 0) (hL : (L.length : Int) ≤ 64) (ex : XE [] L) : TX (tF T k L) := by
  have cl := tF_cl L T 0 h19 (by decide) (by omega)
  refine ⟨fun j hj => ?_, fun s s0 s1 => ?_⟩
  · by_cases jk : j = k
    · subst jk
      have c19 : tF T j L (19 + j) 0 = (L.length : Int) := by rw [cl, if_pos rfl]; omega
      have c22 : ∀ i : Int, 0 ≤ i → i < (L.length : Int) → tF T j L (22 + 2 * j) i = ksort (L.getD i.toNat (0, 0)).1 := fun i i0 i1 => by
        rw [cl, if_neg (by omega), if_pos ⟨rfl, by omega, by omega⟩, show i - 0 = i by omega]
      have c23 : ∀ i : Int, 0 ≤ i → i < (L.length : Int) → tF T j L (23 + 2 * j) i = kval (L.getD i.toNat (0, 0)).1 (L.getD i.toNat (0, 0)).2 := fun i i0 i1 => by
        rw [cl, if_neg (by omega), if_neg (by omega), if_pos ⟨rfl, by omega, by omega⟩, show i - 0 = i by omega]
      rw [c19]
      refine ⟨fun i i0 i1 => ?_, fun _ => ?_⟩
      · rw [c22 i i0 i1, c23 i i0 i1]
        generalize (L.getD i.toNat (0, 0)).1 = t
        generalize (L.getD i.toNat (0, 0)).2 = x
        unfold ksort kval
        by_cases y : -20 ≤ t ∧ t ≤ -8
        · rw [if_pos y]; exact ⟨Or.inr (Or.inr rfl), fun u => absurd u (by decide)⟩
        · rw [if_neg y, if_neg y]
          by_cases y2 : -38 ≤ t ∧ t ≤ -32
          · rw [if_pos y2, if_pos y2]; exact ⟨Or.inr (Or.inl rfl), fun _ => by omega⟩
          · rw [if_neg y2, if_neg y2]; exact ⟨Or.inl rfl, fun u => absurd u (by decide)⟩
      · obtain ⟨M, em, hm⟩ := ex
        rw [Int.toNat_natCast]
        refine kdp_dp L 0 0 (fun i hi => ?_) (by rw [em]; exact hm 0)
        rw [show (0 : Int) + (i : Int) = (i : Int) by omega]
        have a := c22 (i : Int) (by omega) (by omega)
        have b := c23 (i : Int) (by omega) (by omega)
        rw [Int.toNat_natCast] at a b
        exact ⟨a, b⟩
    · have e : ∀ f : Nat, (f = 19 + j ∨ f = 22 + 2 * j ∨ f = 23 + 2 * j) → tF T k L f = T f := fun f hf => funext fun i => by
        rw [cl, if_neg (by omega), if_neg (by omega), if_neg (by omega)]
      rw [e (19 + j) (Or.inl rfl), e (22 + 2 * j) (Or.inr (Or.inl rfl)), e (23 + 2 * j) (Or.inr (Or.inr rfl))]
      exact tx.1 j hj
  · have e : ∀ f : Nat, f < 19 → tF T k L f = T f := fun f hf => funext fun i => by
      rw [cl, if_neg (by omega), if_neg (by omega), if_neg (by omega)]
    rw [e 1 (by decide)] at s1
    rw [e 8 (by decide), e 9 (by decide)]
    exact tx.2 s s0 s1
theorem tR_law (g : Hp) {j : Nat} (hj : j < 3) : (∀ i, tR g (19 + j) i = ld g 330 (j : Int) - ld g 329 (j : Int)) ∧ (∀ i, tR g (22 + 2 * j) i = rng i (ld g 330 (j : Int) - ld g 329 (j : Int)) (ld g 331 (ld g 329 (j : Int) + i))) ∧ (∀ i, tR g (23 + 2 * j) i = rng i (ld g 330 (j : Int) - ld g 329 (j : Int)) (ld g 332 (ld g 329 (j : Int) + i))) := by
  have h3 : j = 0 ∨ j = 1 ∨ j = 2 := by omega
  rcases h3 with rfl | rfl | rfl <;> exact ⟨fun _ => rfl, fun _ => rfl, fun _ => rfl⟩
theorem tR_hi (g : Hp) {f : Nat} (hf : 28 ≤ f) (i : Int) : tR g f i = 0 := by
  unfold tR
  split <;> first | omega | rfl
theorem tR_lo {g g1 : Hp} (e : ∀ a j : Int, 313 ≤ a → a ≤ 328 → ¬ (a = 313 ∧ 6 ≤ j) → ld g1 a j = ld g a j) {f : Nat} (hf : f < 19) (i : Int) : tR g1 f i = tR g f i := by
  have e' : ∀ a j : Int, 314 ≤ a → a ≤ 328 → ld g1 a j = ld g a j := fun a j h1 h2 => e a j (by omega) h2 (by omega)
  have hh : hailAt g1 = hailAt g := hail_eq (fun j => ⟨e 313 5 (by decide) (by decide) (by decide), e' 328 j (by decide) (by decide)⟩)
  unfold tR
  split <;> first | rfl | (exfalso; omega) | (simp only [hh, e 313 0 (by decide) (by decide) (by decide), e 313 1 (by decide) (by decide) (by decide), e 313 2 (by decide) (by decide) (by decide), e 313 3 (by decide) (by decide) (by decide), e' 314 _ (by decide) (by decide), e' 315 _ (by decide) (by decide), e' 316 _ (by decide) (by decide), e' 317 _ (by decide) (by decide), e' 318 _ (by decide) (by decide), e' 319 _ (by decide) (by decide), e' 320 _ (by decide) (by decide), e' 321 _ (by decide) (by decide), e' 322 _ (by decide) (by decide), e' 323 _ (by decide) (by decide), e' 324 _ (by decide) (by decide), e' 325 _ (by decide) (by decide), e' 326 _ (by decide) (by decide), e' 327 _ (by decide) (by decide), e' 328 _ (by decide) (by decide)])
theorem lb_tb : (List.range 16).all (fun x => (List.range 3).all (fun k => (List.range 3).all (fun j => decide (bt (x : Int) (1 + (k : Int)) = 0 → (0 ≤ or32 (x : Int) (shl32 2 (k : Int)) ∧ or32 (x : Int) (shl32 2 (k : Int)) < 16) ∧ bt (or32 (x : Int) (shl32 2 (k : Int))) 0 = bt (x : Int) 0 ∧ bt (or32 (x : Int) (shl32 2 (k : Int))) (1 + (j : Int)) = if j = k then 1 else bt (x : Int) (1 + (j : Int)))))) = true := by decide +kernel
theorem bt_or2 {x : Int} (hx : 0 ≤ x ∧ x < 16) {k : Nat} (hk : k < 3) (h0 : bt x (1 + (k : Int)) = 0) : (0 ≤ or32 x (shl32 2 (k : Int)) ∧ or32 x (shl32 2 (k : Int)) < 16) ∧ bt (or32 x (shl32 2 (k : Int))) 0 = bt x 0 ∧ ∀ j : Nat, j < 3 → bt (or32 x (shl32 2 (k : Int))) (1 + (j : Int)) = if j = k then 1 else bt x (1 + (j : Int)) := by
  have key : ∀ j : Nat, j < 3 → _ := fun j hj => of_decide_eq_true (List.all_eq_true.mp (List.all_eq_true.mp (List.all_eq_true.mp lb_tb x.toNat (List.mem_range.mpr (by omega))) k (List.mem_range.mpr hk)) j (List.mem_range.mpr hj))
  rw [show ((x.toNat : Nat) : Int) = x by omega] at key
  exact ⟨(key 0 (by decide) h0).1, (key 0 (by decide) h0).2.1, fun j hj => (key j hj h0).2.2⟩
def lwR (tp : Int → Int) (n : Int) (T : Wd) (tw hl kn p1 : Int) : LnR :=
  if ¬ (-31 ≤ tkn tp n p1 ∧ tkn tp n p1 ≤ -29) then .error (1, p1) else
  if 0 < T (19 + lwK (tkn tp n p1)) 0 then .error (3, p1) else
  clL tp n (lwK (tkn tp n p1)) tw hl 701 true T [] 0 kn (adv tp n p1)
theorem lrw_tb : (List.range 38).all (fun o => decide (17 ≤ o → ((8 ≤ rwi (o : Int) ∧ rwi (o : Int) ≤ 10) ↔ (28 ≤ o ∧ o ≤ 30)) ∧ (28 ≤ o ∧ o ≤ 30 → rwi (o : Int) = (o : Int) - 20) ∧ (rwi (o : Int) ≤ 7 ↔ (20 ≤ o ∧ o ≤ 27)) ∧ (20 ≤ o ∧ o ≤ 27 → rwi (o : Int) = (o : Int) - 20))) = true := by decide +kernel
theorem lrw_t {t : Int} (ht : -38 ≤ t ∧ t ≤ -18) : ((8 ≤ rwi (-1 - t) ∧ rwi (-1 - t) ≤ 10) ↔ (-31 ≤ t ∧ t ≤ -29)) ∧ (-31 ≤ t ∧ t ≤ -29 → rwi (-1 - t) = -21 - t) ∧ (rwi (-1 - t) ≤ 7 ↔ (-28 ≤ t ∧ t ≤ -21)) ∧ (-28 ≤ t ∧ t ≤ -21 → rwi (-1 - t) = -21 - t) := by
  have := of_decide_eq_true (List.all_eq_true.mp lrw_tb (-1 - t).toNat (List.mem_range.mpr (by omega))) (by omega)
  rw [show (((-1 - t).toNat : Nat) : Int) = -1 - t by omega] at this
  obtain ⟨a, b, c, e⟩ := this
  exact ⟨by rw [a]; omega, fun u => by rw [b (by omega)]; omega, by rw [c]; omega, fun u => by rw [e (by omega)]; omega⟩
theorem FrX_E {hB h2 : Hp} {c0 : Int} (f : FrX h hB) (g : FrE hB c0 h2) (hc : 0 ≤ c0) : FrX h h2 := ⟨g.1, g.2.1.trans f.2.1, fun a j e1 e2 => (g.2.2 a j ⟨fun u => e1 ⟨u.1, by omega⟩, fun u => e2 ⟨by omega, by rw [u.1, u.2]; decide⟩, fun u => e2 ⟨by omega, by
    rcases u.1 with z | z <;> rw [z]
    · rw [show hfA 331 = 64 by decide]; omega
    · rw [show hfA 332 = 64 by decide]; omega⟩⟩).trans (f.2.2 a j e1 e2)⟩
/-- the tables behind a law that is read -/
theorem tR_tF {h3 : Hp} {k : Nat} (hk : k < 3) {c0 : Int} {L : List (Int × Int)} (eT : tR (shf h) = T) (h19 : ∀ i, T (19 + k) i = 0) (hL : (L.length : Int) ≤ 64) (kc : ∀ j : Int, 0 ≤ j → j < 3 → 0 ≤ ld h 329 (3 + j) ∧ ld h 330 (3 + j) ≤ c0)
    (g : ∀ a j : Int, FE c0 a j → ¬ a = 311 → ¬ (a = 329 ∧ j = 3 + (k : Int)) → ¬ (a = 330 ∧ j = 3 + (k : Int)) → ld h3 a j = ld h a j) (e329 : ld h3 329 (3 + (k : Int)) = c0) (e330 : ld h3 330 (3 + (k : Int)) = c0 + (L.length : Int))
    (e3 : ∀ i : Nat, i < L.length → ld h3 331 (64 + c0 + (i : Int)) = ksort (L.getD i (0, 0)).1 ∧ ld h3 332 (64 + c0 + (i : Int)) = kval (L.getD i (0, 0)).1 (L.getD i (0, 0)).2 ∧ I32 (L.getD i (0, 0)).2) : tR (shf h3) = tF T k L := by
  funext f i
  rw [tF_cl L T 0 h19 (by decide) (by omega)]
  have s3 : ∀ (g : Hp) (a j : Int), (a = 329 ∨ a = 330) → ld (shf g) a j = ld g a (3 + j) := fun g a j ha => by
    rw [shf_in _ (by omega)]
    rcases ha with rfl | rfl
    · rw [show hfA 329 = 3 by decide, Int.add_comm]
    · rw [show hfA 330 = 3 by decide, Int.add_comm]
  have s4 : ∀ (g : Hp) (a j : Int), (a = 331 ∨ a = 332) → ld (shf g) a j = ld g a (64 + j) := fun g a j ha => by
    rw [shf_in _ (by omega)]
    rcases ha with rfl | rfl
    · rw [show hfA 331 = 64 by decide, Int.add_comm]
    · rw [show hfA 332 = 64 by decide, Int.add_comm]
  by_cases f19 : f < 19
  · rw [if_neg (by omega), if_neg (by omega), if_neg (by omega), ← eT]
    refine tR_lo (fun a j a0 a1 a2 => ?_) f19 i
    rw [shf_in _ (by omega), shf_in _ (by omega)]
    refine g a _ ⟨by omega, fun u => a2 ⟨u.1, ?_⟩, by omega⟩ (by omega) (by omega) (by omega)
    have := u.2
    rw [u.1, show hfA 313 = 7 by decide] at this
    omega
  by_cases f28 : 28 ≤ f
  · rw [if_neg (by omega), if_neg (by omega), if_neg (by omega), ← eT, tR_hi _ f28, tR_hi _ f28]
  obtain ⟨j, hj, hf⟩ : ∃ j : Nat, j < 3 ∧ (f = 19 + j ∨ f = 22 + 2 * j ∨ f = 23 + 2 * j) := by
    by_cases y : f < 22
    · exact ⟨f - 19, by omega, by omega⟩
    · exact ⟨(f - 22) / 2, by omega, by omega⟩
  obtain ⟨a1, a2, a3⟩ := tR_law (shf h3) hj
  obtain ⟨b1, b2, b3⟩ := tR_law (shf h) hj
  rw [eT] at b1 b2 b3
  obtain ⟨k1, k2⟩ := kc (j : Int) (by omega) (by omega)
  have other : ¬ j = k → ld (shf h3) 329 (j : Int) = ld (shf h) 329 (j : Int) ∧ ld (shf h3) 330 (j : Int) = ld (shf h) 330 (j : Int) := fun jk => by
    rw [s3 _ _ _ (Or.inl rfl), s3 _ _ _ (Or.inl rfl), s3 _ _ _ (Or.inr rfl), s3 _ _ _ (Or.inr rfl)]
    exact ⟨g 329 _ ⟨by omega, by omega, by omega⟩ (by decide) (by omega) (by omega), g 330 _ ⟨by omega, by omega, by omega⟩ (by decide) (by omega) (by omega)⟩
  have own : j = k → ld (shf h3) 329 (j : Int) = c0 ∧ ld (shf h3) 330 (j : Int) = c0 + (L.length : Int) := fun jk => by
    rw [jk, s3 _ _ _ (Or.inl rfl), s3 _ _ _ (Or.inr rfl)]; exact ⟨e329, e330⟩
  rcases hf with hf | hf | hf
  · rw [hf, a1]
    by_cases jk : j = k
    · obtain ⟨o1, o2⟩ := own jk
      rw [if_pos (by omega), o1, o2]; omega
    · obtain ⟨o1, o2⟩ := other jk
      rw [if_neg (by omega), if_neg (by omega), if_neg (by omega), o1, o2, b1]
  · rw [hf, a2]
    by_cases jk : j = k
    · obtain ⟨o1, o2⟩ := own jk
      rw [if_neg (by omega), o1, o2, show c0 + (L.length : Int) - c0 = (L.length : Int) by omega, s4 _ _ _ (Or.inl rfl)]
      by_cases y : 0 ≤ i ∧ i < (L.length : Int)
      · rw [rng_in y, if_pos ⟨by omega, by omega, by omega⟩, show i - 0 = i by omega, show 64 + (c0 + i) = 64 + c0 + ((i.toNat : Nat) : Int) by omega]
        exact (e3 i.toNat (by omega)).1
      · have z := b1 0
        rw [jk, h19] at z
        rw [if_neg (by omega), if_neg (by omega), b2, jk, ← z]
        unfold rng
        rw [if_neg y, if_neg (by omega)]
    · obtain ⟨o1, o2⟩ := other jk
      rw [if_neg (by omega), if_neg (by omega), if_neg (by omega), o1, o2, b2]
      unfold rng
      split
      · rename_i u
        rw [s4 _ _ _ (Or.inl rfl), s4 _ _ _ (Or.inl rfl)]
        rw [s3 _ _ _ (Or.inr rfl), s3 _ _ _ (Or.inl rfl)] at u
        rw [s3 _ _ _ (Or.inl rfl)]
        exact g 331 _ ⟨by omega, by omega, by omega⟩ (by decide) (by omega) (by omega)
      · rfl
  · rw [hf, a3]
    by_cases jk : j = k
    · obtain ⟨o1, o2⟩ := own jk
      rw [if_neg (by omega), if_neg (by omega), o1, o2, show c0 + (L.length : Int) - c0 = (L.length : Int) by omega, s4 _ _ _ (Or.inr rfl)]
      by_cases y : 0 ≤ i ∧ i < (L.length : Int)
      · rw [rng_in y, if_pos ⟨by omega, by omega, by omega⟩, show i - 0 = i by omega, show 64 + (c0 + i) = 64 + c0 + ((i.toNat : Nat) : Int) by omega]
        exact (e3 i.toNat (by omega)).2.1
      · have z := b1 0
        rw [jk, h19] at z
        rw [if_neg (by omega), b3, jk, ← z]
        unfold rng
        rw [if_neg y, if_neg (by omega)]
    · obtain ⟨o1, o2⟩ := other jk
      rw [if_neg (by omega), if_neg (by omega), if_neg (by omega), o1, o2, b3]
      unfold rng
      split
      · rename_i u
        rw [s4 _ _ _ (Or.inr rfl), s4 _ _ _ (Or.inr rfl)]
        rw [s3 _ _ _ (Or.inr rfl), s3 _ _ _ (Or.inl rfl)] at u
        rw [s3 _ _ _ (Or.inl rfl)]
        exact g 332 _ ⟨by omega, by omega, by omega⟩ (by decide) (by omega) (by omega)
      · rfl
/-- a law's line; where it ends at a sign of comparison, the line's end is a fault there -/
theorem rk_164 (p : PR h tp n pl T tw hl kn 0 ln) (hkn : 0 ≤ kn ∧ kn ≤ 64) (d : Nat) : ∃ h' R, C (d + 170) 164 [(2, 311)] h = some ((9, 0), h') ∧ FrX h h' ∧ LO tp n 0 ln h' R ∧ (R = lwR tp n T tw hl kn pl ∨ ∃ T' tw' hl' kn' p', R = .ok (T', tw', hl', kn', p') ∧ ¬ tkn tp n p' = -5 ∧ lwR tp n T tw hl kn pl = .error (1, p')) := by
  have w := p.1.1
  have tb := (tkn_c tp n pl).1
  have ls := p.2.2.1
  have pn := p.1.2.2.2.1
  unfold lwR
  have bad : ∀ hx, hx = flt h 1 pl → V (d + 170) 164 30 [(2, 311), (9, 0)] [] hx = some ((9, 0), hx) := fun hx e => by
    have wf := flt_w w 1 pl
    rw [e, e164_30, if_pos (F_a311 wf), if_pos (F_a311 wf), flt_30, if_neg (by decide), e164_64, if_pos (F_a311 wf), flt_30, if_neg (by decide)]
  have e25 : V (d + 170) 164 25 [(2, 311), (9, 0)] [] h = some ((9, 0), flt h 1 pl) := by
    rw [e164_25, if_pos (F_a311 w), Cl_eq _ (rk_145p p.pp 1 (d + 169)), bad _ rfl]
  by_cases q : -31 ≤ tkn tp n pl ∧ tkn tp n pl ≤ -29
  · rw [if_neg (fun u => u q)]
    have hpn := tk_lt (tp := tp) (show ¬ tkn tp n pl = -1 by omega)
    have ag := adv_gt (tp := tp) hpn
    have ag0 : 0 ≤ adv tp n pl := by
      have i0 := p.1.2.2.2.2.2.1
      have := (lxr_b cws tp (n - (lTok tp n pl).2).toNat (lTok tp n pl).2).1
      exact Int.le_trans i0 this
    have hw : ld h 311 28 = 0 ∧ ld h 311 29 = rwi (-1 - tkn tp n pl) := by
      unfold LSx at ls
      rcases ls with u | u | u | u | u | u <;> first | exact u.2 | (exfalso; omega)
    obtain ⟨-, r2, -, -⟩ := lrw_t (t := tkn tp n pl) (by omega)
    have ev : ld h 311 29 = -21 - tkn tp n pl := hw.2.trans (r2 q)
    obtain ⟨k, hk, ek, ekt⟩ : ∃ k : Nat, k < 3 ∧ lwK (tkn tp n pl) = k ∧ -21 - tkn tp n pl = 8 + (k : Int) := by
      have h3 : tkn tp n pl = -29 ∨ tkn tp n pl = -30 ∨ tkn tp n pl = -31 := by omega
      rcases h3 with u | u | u <;> rw [u]
      · exact ⟨0, by decide, rfl, by decide⟩
      · exact ⟨1, by decide, rfl, by decide⟩
      · exact ⟨2, by decide, rfl, by decide⟩
    rw [ek]
    obtain ⟨-, -, -, -, -, p6, p7, p8, p9, p10, p11, p12, p13, p14⟩ := id p
    have e45 : C (d + 170) 164 [(2, 311)] h = if and32 (shr32 (ld h 311 23) (1 + (k : Int))) 1 = 1 then V (d + 170) 164 59 [(2, 311), (0, (k : Int))] [] h else V (d + 170) 164 64 [(2, 311), (0, (k : Int))] [] h := by
      rw [ce_164, e164_0, if_pos (F_a311 w), if_pos hw.1, if_pos (F_a311 w), ev, ekt, if_neg (by omega), e164_16, if_pos (F_a311 w), ev, ekt, if_neg (by omega), e164_30, if_pos (F_a311 w), if_pos (F_a311 w), p.2.2.2.1, if_pos rfl, ev, ekt, show w32 (8 + (k : Int) - 8) = (k : Int) by unfold w32; omega, e164_45, if_pos (F_a311 w), show w32 (1 + (k : Int)) = 1 + (k : Int) by unfold w32; omega]
    rw [e45]
    have e9 := p9 k hk
    by_cases q3 : 0 < T (19 + k) 0
    · rw [if_pos q3] at e9
      have wf := flt_w w 3 pl
      rw [if_pos (show and32 (shr32 (ld h 311 23) (1 + (k : Int))) 1 = 1 from e9), if_pos q3]
      refine ⟨flt h 3 pl, .error (3, pl), ?_, flt_F w 3 pl, ⟨(by decide : ¬ (3 : Int) = 0), flt_30 _ _ _, flt_31 _ _ _⟩, Or.inl rfl⟩
      rw [e164_59, if_pos (F_a311 w), Cl_eq _ (rk_145p p.pp 3 (d + 169)), e164_64, if_pos (F_a311 wf), flt_30, if_neg (by decide)]
    · rw [if_neg q3] at e9
      have e9' : ¬ and32 (shr32 (ld h 311 23) (1 + (k : Int))) 1 = 1 := by rw [show and32 (shr32 (ld h 311 23) (1 + (k : Int))) 1 = 0 from e9]; decide
      obtain ⟨o1, o2, o3⟩ := bt_or2 p10 hk e9
      have law0 := tR_law (shf h) hk
      rw [p6.2.1] at law0
      have lens : ∀ j : Nat, j < 3 → 0 ≤ T (19 + j) 0 := fun j hj => by
        have a := p6.2.2.2.2.1 (j : Int) (by omega) (by omega)
        have b := (tR_law (shf h) hj).1 0
        rw [p6.2.1] at b
        omega
      have l0 : 0 ≤ T 19 0 := lens 0 (by decide)
      have l1 : 0 ≤ T 20 0 := lens 1 (by decide)
      have l2 : 0 ≤ T 21 0 := lens 2 (by decide)
      have h19 : ∀ i, T (19 + k) i = 0 := fun i => by
        have a := lens k hk
        rw [law0.1 i, ← law0.1 0]; omega
      have hc0 : 0 ≤ T 19 0 + T 20 0 + T 21 0 := by omega
      have hck := p14.2.2.1
      have e13 := p14.1
      generalize hcc : T 19 0 + T 20 0 + T 21 0 = c0 at *
      have wA : WF (st h 311 23 (or32 (ld h 311 23) (shl32 2 (k : Int)))) := wf_st w (npt_J (by decide +kernel))
      have fA : FrX h (st h 311 23 (or32 (ld h 311 23) (shl32 2 (k : Int)))) := ⟨wA, rfl, fun a j e1 _ => ld_st_ne (by omega)⟩
      have A23 : ld (st h 311 23 (or32 (ld h 311 23) (shl32 2 (k : Int)))) 311 23 = or32 (ld h 311 23) (shl32 2 (k : Int)) := ld_st_eq _ _ _ _
      have gA : ∀ a j, ¬ (a = 311 ∧ j = 23) → ld (st h 311 23 (or32 (ld h 311 23) (shl32 2 (k : Int)))) a j = ld h a j := fun a j e => ld_st_ne (by omega)
      have e84 : V (d + 170) 164 64 [(2, 311), (0, (k : Int))] [] h = V (d + 170) 164 84 [(2, 311), (0, (k : Int))] [] (st h 311 23 (or32 (ld h 311 23) (shl32 2 (k : Int)))) := by
        rw [e164_64, if_pos (F_a311 w), p.2.2.2.1, if_pos rfl, e164_72, if_pos (F_a311 w), if_pos (W_a311 w)]
      rw [if_neg e9', if_neg q3, e84]
      clear e9' e9 e45 e84 e25 bad
      generalize st h 311 23 (or32 (ld h 311 23) (shl32 2 (k : Int))) = hA at *
      have pA : PP hA tp n pl := by
        obtain ⟨⟨-, c2, c3, c4, c5, c6⟩, g2, g3, g4, g5⟩ := p.pp
        exact ⟨⟨wA, fun j j0 j1 => by rw [gA 312 j (by omega)]; exact c2 j j0 j1, (gA 311 25 (by decide)).trans c3, c4, (gA 311 26 (by decide)).trans c5, c6⟩, (gA 311 27 (by decide)).trans g2, by rw [gA 311 28 (by decide), gA 311 29 (by decide)]; exact g3, (gA 311 30 (by decide)).trans g4, (gA 311 31 (by decide)).trans g5⟩
      generalize or32 (ld h 311 23) (shl32 2 (k : Int)) = y23 at *
      obtain ⟨h1, a1, f1, p1⟩ := PP_adv pA (d + 164)
      have w1 := f1.1
      have r155 := rk_155 w1 (x := 6) (by decide) (d + 169)
      have c13 : ld h1 313 13 = c0 := (f1.2.2 313 13 (by omega)).trans ((gA 313 13 (by decide)).trans e13)
      rw [show (7 : Int) + 6 = 13 by decide, c13] at r155
      have wB : WF (st h1 329 (3 + (k : Int)) c0) := wf_st w1 (npt_A (by decide +kernel) _)
      have pB := PP_st p1 wB (by decide)
      have w3k : True → w32 (3 + (k : Int)) = 3 + (k : Int) := fun _ => by unfold w32; omega
      have e102 : V (d + 170) 164 84 [(2, 311), (0, (k : Int))] [] hA = V (d + 170) 164 102 [(2, 311), (0, (k : Int))] [] (st h1 329 (3 + (k : Int)) c0) := by
        rw [e164_84, if_pos (F_a311 wA), Cl_eq _ a1, if_pos (F_a311 w1), if_pos (F_a311 w1), Cl_eq _ r155, P_311_19 w1, w3k trivial, if_pos (W_a329 w1), L_a329 w1, if_pos (by omega)]
      rw [e102]
      have gB : ∀ a j, ¬ (a = 311 ∧ (j = 23 ∨ (26 ≤ j ∧ j ≤ 29))) → ¬ (a = 329 ∧ j = 3 + (k : Int)) → ld (st h1 329 (3 + (k : Int)) c0) a j = ld h a j := fun a j e1 e2 => by
        rw [ld_st_ne (by omega), f1.2.2 a j (by omega), gA a j (by omega)]
      have B23 : ld (st h1 329 (3 + (k : Int)) c0) 311 23 = y23 := by
        rw [ld_st_ne (by omega), f1.2.2 311 23 (by omega), A23]
      have B329 : ld (st h1 329 (3 + (k : Int)) c0) 329 (3 + (k : Int)) = c0 := ld_st_eq _ _ _ _
      have fB : FrX h (st h1 329 (3 + (k : Int)) c0) := FrX_tr fA (FrX_tr (FrX_L f1) (FrX_in wB (by decide) (by rw [show hfA 329 = 3 by decide]; omega)))
      generalize st h1 329 (3 + (k : Int)) c0 = hB at *
      have peB : PE hB c0 hB tp n (adv tp n pl) [] kn 0 := ⟨pB, ⟨wB, rfl, fun _ _ _ => rfl⟩, (gB 311 35 (by omega) (by omega)).trans p11, (gB 311 34 (by omega) (by omega)).trans p12, by
        rw [gB 313 13 (by decide) (by omega), e13]
        show c0 = c0 + 0
        omega, fun i hi => by simp at hi⟩
      obtain ⟨h2, a2, f2, r2⟩ := (SS_all (h0 := hB) (c0 := c0) (tp := tp) (n := n) (k := k) (tw := tw) (hl := hl) (T0 := T) ((n - adv tp n pl).toNat + 1) (adv tp n pl) (by omega)).2.2.2.2.2 hB [] kn 0 [] 701 (d + 169) peB ⟨hc0, by show c0 + 0 ≤ kn; omega, hkn.2⟩ ⟨by decide, by decide⟩ ⟨fun _ => Or.inl (by show (0 : Int) < 1; decide), fun u => absurd u (by decide)⟩ (by omega) (by unfold need; omega)
      have r156 := rk_155 f2.1 (x := 6) (by decide) (d + 169)
      rw [show (7 : Int) + 6 = 13 by decide] at r156
      have w3 : WF (st h2 330 (3 + (k : Int)) (ld h2 313 13)) := wf_st f2.1 (npt_A (by decide +kernel) _)
      have e120 : V (d + 170) 164 102 [(2, 311), (0, (k : Int))] [] hB = some ((9, 0), st h2 330 (3 + (k : Int)) (ld h2 313 13)) := by
        rw [e164_102, if_pos (F_a311 wB), Cl_eq _ a2, if_pos (F_a311 f2.1), if_pos (F_a311 f2.1), Cl_eq _ r156, P_311_20 f2.1, w3k trivial, if_pos (W_a330 f2.1), L_a330 f2.1, if_pos (by omega), e164_120]
      have fX : FrX h (st h2 330 (3 + (k : Int)) (ld h2 313 13)) := FrX_tr (FrX_E fB f2 hc0) (FrX_in w3 (by decide) (by rw [show hfA 330 = 3 by decide]; omega))
      rw [show tF T k [] = T from rfl] at r2
      rcases r2 with ⟨e', pc, e0, g1, g2, g3⟩ | ⟨L, kn', pl', m', p3, b1, b2, b3, b4, b5, c⟩
      · exact ⟨_, .error (e', pc), e120, fX, ⟨e0, (ld_st_ne (Or.inl (by decide))).trans g1, (ld_st_ne (Or.inl (by decide))).trans g2⟩, Or.inl g3.symm⟩
      · have b4 : (L.length : Int) - kn' = 0 - kn := b4
        have d13 := p3.2.2.2.2.1
        have c1 : ∀ a j : Int, FE c0 a j → ¬ (a = 330 ∧ j = 3 + (k : Int)) → ld (st h2 330 (3 + (k : Int)) (ld h2 313 13)) a j = ld hB a j := fun a j e1 e2 => by
          rw [ld_st_ne (by omega)]; exact f2.2.2 a j e1
        have c13' : ld (st h2 330 (3 + (k : Int)) (ld h2 313 13)) 313 13 = c0 + (L.length : Int) := (ld_st_ne (Or.inl (by decide))).trans d13
        have c330 : ld (st h2 330 (3 + (k : Int)) (ld h2 313 13)) 330 (3 + (k : Int)) = c0 + (L.length : Int) := (ld_st_eq _ _ _ _).trans d13
        have c3 : ∀ i : Nat, i < L.length → ld (st h2 330 (3 + (k : Int)) (ld h2 313 13)) 331 (64 + c0 + (i : Int)) = ksort (L.getD i (0, 0)).1 ∧ ld (st h2 330 (3 + (k : Int)) (ld h2 313 13)) 332 (64 + c0 + (i : Int)) = kval (L.getD i (0, 0)).1 (L.getD i (0, 0)).2 ∧ I32 (L.getD i (0, 0)).2 := fun i hi => by
          rw [ld_st_ne (Or.inl (by decide)), ld_st_ne (Or.inl (by decide))]; exact p3.2.2.2.2.2 i hi
        have pz := PP_st p3.1 w3 (by decide)
        have z35 : ld (st h2 330 (3 + (k : Int)) (ld h2 313 13)) 311 35 = kn' := (ld_st_ne (Or.inl (by decide))).trans p3.2.2.1
        have z34 : ld (st h2 330 (3 + (k : Int)) (ld h2 313 13)) 311 34 = 0 := (ld_st_ne (Or.inl (by decide))).trans p3.2.2.2.1
        generalize st h2 330 (3 + (k : Int)) (ld h2 313 13) = h3 at *
        have kcj : ∀ j : Int, 0 ≤ j → j < 3 → 0 ≤ ld h 329 (3 + j) ∧ ld h 330 (3 + j) ≤ c0 := fun j j0 j3 => by
          have a := p6.2.2.2.2.1 j j0 j3
          rw [shf_in _ (by decide), show hfA 329 = 3 by decide, Int.add_comm j 3] at a
          have b := p14.2.1 j j0 j3
          rw [e13] at b
          exact ⟨a.1, b⟩
        have eT3 := tR_tF (h := h) (h3 := h3) hk (c0 := c0) (L := L) p6.2.1 h19 (by omega) kcj (fun a j e1 e2 e3 e4 => by rw [c1 a j e1 e4, gB a j (by omega) e3]) (by rw [c1 329 _ ⟨by omega, by omega, by omega⟩ (by omega), B329]) c330 c3
        have cl := tF_cl L T 0 h19 (by decide) (by omega)
        have clo : ∀ f : Nat, f < 19 → tF T k L f = T f := fun f hf => funext fun i => by
          rw [cl, if_neg (by omega), if_neg (by omega), if_neg (by omega)]
        have cl19 : ∀ j : Nat, j < 3 → tF T k L (19 + j) 0 = if j = k then (L.length : Int) else T (19 + j) 0 := fun j hj => by
          rw [cl]
          by_cases y : j = k
          · rw [if_pos (by omega), if_pos y]; omega
          · rw [if_neg (by omega), if_neg (by omega), if_neg (by omega), if_neg y]
        have hsum : tF T k L 19 0 + tF T k L 20 0 + tF T k L 21 0 = c0 + (L.length : Int) := by
          have x0 : tF T k L 19 0 = if 0 = k then (L.length : Int) else T 19 0 := cl19 0 (by decide)
          have x1 : tF T k L 20 0 = if 1 = k then (L.length : Int) else T 20 0 := cl19 1 (by decide)
          have x2 : tF T k L 21 0 = if 2 = k then (L.length : Int) else T 21 0 := cl19 2 (by decide)
          have h3 : k = 0 ∨ k = 1 ∨ k = 2 := by omega
          rcases h3 with rfl | rfl | rfl
          · have x3 : T 19 0 = 0 := h19 0
            rw [if_pos rfl] at x0; rw [if_neg (by decide)] at x1 x2; omega
          · have x3 : T 20 0 = 0 := h19 0
            rw [if_pos rfl] at x1; rw [if_neg (by decide)] at x0 x2; omega
          · have x3 : T 21 0 = 0 := h19 0
            rw [if_pos rfl] at x2; rw [if_neg (by decide)] at x0 x1; omega
        have iT : ∀ f i, I32 (tF T k L f i) := fun f i => by
          rw [cl]
          split
          · exact I32_of (by omega)
          split
          · exact ksort_I _
          split
          · rename_i u
            have := c3 (i - 0).toNat (by omega)
            exact kval_I this.2.2
          · exact p6.2.2.2.1 f i
        have hT' : TOK (tF T k L) := by
          have t := p6.2.2.1
          unfold TOK at t ⊢
          rw [clo 0 (by decide), clo 1 (by decide), clo 2 (by decide), clo 3 (by decide), clo 5 (by decide), clo 6 (by decide), clo 10 (by decide), clo 11 (by decide), clo 12 (by decide), clo 13 (by decide), clo 14 (by decide)]
          exact t
        have g23 : ld h3 311 23 = y23 := (c1 311 23 ⟨by omega, by omega, by omega⟩ (by omega)).trans B23
        have prn : PR h3 tp n pl' (tF T k L) tw hl kn' 0 ln := by
          refine ⟨pz.1, pz.2.1, pz.2.2.1, pz.2.2.2.1, pz.2.2.2.2, ⟨shf_wf w3, eT3, hT', iT, fun j j0 j3 => ?_, ?_⟩, ?_, by rw [g23, o2]; exact p8, fun j hj => ?_, by rw [g23]; exact o1, z35, z34, ?_, ⟨by rw [c13', hsum], fun j j0 j3 => ?_, by rw [hsum]; omega, p14.2.2.2.1, fun z => by rw [clo 18 (by decide)]; exact p14.2.2.2.2.1 z, TX_tF p14.2.2.2.2.2 hk h19 (by omega) b5⟩⟩
          · rw [shf_in _ (by decide), shf_in _ (by decide), show hfA 329 = 3 by decide, show hfA 330 = 3 by decide]
            by_cases y : j = (k : Int)
            · rw [y, Int.add_comm (k : Int) 3, c330, c1 329 _ ⟨by omega, by omega, by omega⟩ (by omega), B329]; omega
            · rw [c1 329 _ ⟨by omega, by omega, by omega⟩ (by omega), c1 330 _ ⟨by omega, by omega, by omega⟩ (by omega), gB 329 _ (by omega) (by omega), gB 330 _ (by omega) (by omega)]
              have a := p6.2.2.2.2.1 j j0 j3
              rw [shf_in _ (by decide), shf_in _ (by decide), show hfA 329 = 3 by decide, show hfA 330 = 3 by decide] at a
              exact a
          · have := p6.2.2.2.2.2
            rw [shf_in _ (by decide), show (5 : Int) + hfA 313 = 12 by decide] at this ⊢
            rw [c1 313 12 ⟨by omega, by omega, by omega⟩ (by omega), gB 313 12 (by omega) (by omega)]; exact this
          · rw [c1 313 11 ⟨by omega, by omega, by omega⟩ (by omega), gB 313 11 (by omega) (by omega)]; exact p7
          · rw [g23, o3 j hj, cl19 j hj]
            by_cases y : j = k
            · rw [if_pos y, if_pos y, if_pos (by omega)]
            · rw [if_neg y, if_neg y, p9 j hj]
          · rw [c1 311 24 ⟨by omega, by omega, by omega⟩ (by omega), gB 311 24 (by omega) (by omega)]; exact p13
          · by_cases y : j = (k : Int)
            · rw [y, c330, c13']; omega
            · rw [c13', c1 330 _ ⟨by omega, by omega, by omega⟩ (by omega), gB 330 _ (by omega) (by omega)]
              have := (kcj j j0 j3).2
              omega
        refine ⟨h3, .ok (tF T k L, tw, hl, kn', pl'), e120, fX, prn, ?_⟩
        have lt' := lvt (tkn_c tp n pl').1
        rcases c with ⟨z1, z2⟩ | ⟨-, z2, z3⟩
        · obtain ⟨m2, rfl⟩ : ∃ m2, m' = m2 + 1 := ⟨m' - 1, by omega⟩
          refine Or.inl ?_
          rw [z1, clL_ns (by omega), if_neg (by omega), if_pos rfl]
          rfl
        · exact Or.inr ⟨_, _, _, _, _, rfl, by omega, z3⟩
  · rw [if_pos q]
    refine ⟨flt h 1 pl, .error (1, pl), ?_, flt_F w 1 pl, ⟨(by decide : ¬ (1 : Int) = 0), flt_30 _ _ _, flt_31 _ _ _⟩, Or.inl rfl⟩
    rw [ce_164, e164_0, if_pos (F_a311 w)]
    by_cases s0 : ld h 311 28 = 0
    · have hw : tkn tp n pl ≤ -18 ∧ ld h 311 29 = rwi (-1 - tkn tp n pl) := by
        unfold LSx at ls
        rcases ls with u | u | u | u | u | u <;> first | exact ⟨u.1.2, u.2.2⟩ | (exfalso; omega)
      obtain ⟨r1, -⟩ := lrw_t (t := tkn tp n pl) (by omega)
      rw [if_pos s0, if_pos (F_a311 w), hw.2]
      by_cases y : rwi (-1 - tkn tp n pl) < 8
      · rw [if_pos y, e25]
      · rw [if_neg y, e164_16, if_pos (F_a311 w), hw.2, if_pos (by omega), e25]
    · rw [if_neg s0, e25]
end LW2
