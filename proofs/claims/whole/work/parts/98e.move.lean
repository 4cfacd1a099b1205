/-! layer 2: the plain program: what moves -/
section RM
variable {h h' : Hp} {a ns np : Int} {T S : Wd}
theorem ld_stE (h : Hp) (x j y k v : Int) : ld (st h x j v) y k = if y = x ∧ k = j then v else ld h y k := rfl
theorem sR_u0 (v : Int) : sR (st h 333 a v) a ns np = up1 (sR h a ns np) 0 v := by
  funext f i
  unfold sR up1
  rcases f with _ | _ | _ | _ | _ | _ | _ | _ | _ | _ | _ | _ | f <;> simp [ld_stE]
theorem sR_u1 (v : Int) : sR (st h 334 a v) a ns np = up1 (sR h a ns np) 1 v := by
  funext f i
  unfold sR up1
  rcases f with _ | _ | _ | _ | _ | _ | _ | _ | _ | _ | _ | _ | f <;> simp [ld_stE]
theorem sR_u2 (v : Int) : sR (st h 335 a v) a ns np = up1 (sR h a ns np) 2 v := by
  funext f i
  unfold sR up1
  rcases f with _ | _ | _ | _ | _ | _ | _ | _ | _ | _ | _ | _ | f <;> simp [ld_stE]
theorem sR_u3 (v : Int) : sR (st h 336 a v) a ns np = up1 (up1 (sR h a ns np) 3 v) 4 (and32 (ld h 337 a) (xor32 v (-1))) := by
  funext f i
  unfold sR up1
  rcases f with _ | _ | _ | _ | _ | _ | _ | _ | _ | _ | _ | _ | f <;> simp [ld_stE]
theorem sR_u4 (v : Int) : sR (st h 337 a v) a ns np = up1 (sR h a ns np) 4 (and32 v (xor32 (ld h 336 a) (-1))) := by
  funext f i
  unfold sR up1
  rcases f with _ | _ | _ | _ | _ | _ | _ | _ | _ | _ | _ | _ | f <;> simp [ld_stE]
theorem rng_uq {i j n v x : Int} (hi : 0 ≤ i ∧ i < n) : rng j n (if j = i then v else x) = if j = i then v else rng j n x := by
  by_cases q : j = i
  · rw [if_pos q, if_pos q, q, rng_in hi]
  · rw [if_neg q, if_neg q]
theorem sR_u6 {i : Int} (hi : 0 ≤ i ∧ i < ns) (v : Int) : sR (st h 338 (5 * a + i) v) a ns np = up2 (sR h a ns np) 6 i v := by
  funext f j
  unfold sR up2
  rcases f with _ | _ | _ | _ | _ | _ | _ | _ | _ | _ | _ | _ | f <;> simp [ld_stE, rng_uq hi]
theorem sR_u7 {i : Int} (hi : 0 ≤ i ∧ i < np) (v : Int) : sR (st h 339 (10 * a + i) v) a ns np = up2 (sR h a ns np) 7 i v := by
  funext f j
  unfold sR up2
  rcases f with _ | _ | _ | _ | _ | _ | _ | _ | _ | _ | _ | _ | f <;> simp [ld_stE, rng_uq hi]
theorem sR_u8 {i : Int} (hi : 0 ≤ i ∧ i < np) (v : Int) : sR (st h 340 (10 * a + i) v) a ns np = up2 (sR h a ns np) 8 i v := by
  funext f j
  unfold sR up2
  rcases f with _ | _ | _ | _ | _ | _ | _ | _ | _ | _ | _ | _ | f <;> simp [ld_stE, rng_uq hi]
theorem sR_u9 {i : Int} (hi : 0 ≤ i ∧ i < np) (v : Int) : sR (st h 341 (10 * a + i) v) a ns np = up2 (sR h a ns np) 9 i v := by
  funext f j
  unfold sR up2
  rcases f with _ | _ | _ | _ | _ | _ | _ | _ | _ | _ | _ | _ | f <;> simp [ld_stE, rng_uq hi]
theorem rng_o1 {j n v x : Int} (hn : 0 ≤ n) : rng j (n + 1) (if j = n then v else x) = if j = n then v else rng j n x := by
  unfold rng
  by_cases q : j = n
  · rw [if_pos q, if_pos (by omega), if_pos q]
  · rw [if_neg q, if_neg q]
    by_cases z : 0 ≤ j ∧ j < n
    · rw [if_pos z, if_pos (by omega)]
    · rw [if_neg z, if_neg (by omega)]
theorem sR_own (h5 : 0 ≤ ld h 342 a) (p x : Int) : sR (st (st (st h 343 (40 * a + ld h 342 a) p) 344 (40 * a + ld h 342 a) x) 342 a (ld h 342 a + 1)) a ns np = upc (sR h a ns np) p x := by
  funext f j
  unfold sR upc
  rcases f with _ | _ | _ | _ | _ | _ | _ | _ | _ | _ | _ | _ | f <;> simp [ld_stE, rng_o1 h5]
/-- another studio's cells -/
def inA (a x j : Int) : Prop := (((333 ≤ x ∧ x ≤ 337) ∨ x = 342) ∧ j = a) ∨ (x = 338 ∧ 5 * a ≤ j ∧ j < 5 * a + 5) ∨ ((339 ≤ x ∧ x ≤ 341) ∧ 10 * a ≤ j ∧ j < 10 * a + 10) ∨ ((343 ≤ x ∧ x ≤ 344) ∧ 40 * a ≤ j ∧ j < 40 * a + 40)
def FrA (a : Int) (h h' : Hp) : Prop := WF h' ∧ h'.2 = h.2 ∧ ∀ x j : Int, x ≠ 348 → x ≠ 349 → ¬ (x = 311 ∧ j = 57) → ¬ inA a x j → ld h' x j = ld h x j
theorem FrA_rf (w : WF h) : FrA a h h := ⟨w, rfl, fun _ _ _ _ _ _ => rfl⟩
theorem FrA_tr {h1 h2 : Hp} (f : FrA a h h1) (g : FrA a h1 h2) : FrA a h h2 := ⟨g.1, g.2.1.trans f.2.1, fun x j e1 e2 e3 e4 => (g.2.2 x j e1 e2 e3 e4).trans (f.2.2 x j e1 e2 e3 e4)⟩
theorem FrA_W (f : FrW h h') : FrA a h h' := ⟨f.1, f.2.1, fun x j e1 e2 e3 _ => f.2.2 x j e1 e2 e3⟩
theorem FrA_st {h1 : Hp} (f : FrA a h h1) {x j : Int} (hx : inA a x j) (hn : npt x j) (v : Int) : FrA a h (st h1 x j v) := ⟨wf_st f.1 hn, f.2.1, fun y k e1 e2 e3 e4 => (ld_st_ne (by
  by_cases q : y = x
  · right; intro z; rw [q, z] at e4; exact e4 hx
  · exact Or.inl q)).trans (f.2.2 y k e1 e2 e3 e4)⟩
theorem RT_A (r : RT h T) (f : FrA a h h') : RT h' T := RT_eq r f.1 (fun x j u v => f.2.2 x j (by omega) (by omega) (by omega) (by unfold inA; omega))
/-- the studio says S' after a change -/
theorem RK_up (r : RK h a T S) (f : FrA a h h') {S' : Wd} (e : sR h' a (T 1 0) (T 2 0) = S') (hI : ∀ f i, I32 (S' f i)) : RK h' a T S' := ⟨RT_A r.1 f, r.2.1, e, hI⟩
theorem I32_u1 (hS : ∀ f i, I32 (S f i)) {f : Nat} {v : Int} (hv : I32 v) : ∀ g i, I32 (up1 S f v g i) := fun g i => by
  unfold up1; split
  · exact hv
  · exact hS g i
theorem I32_u2 (hS : ∀ f i, I32 (S f i)) {f : Nat} {j v : Int} (hv : I32 v) : ∀ g i, I32 (up2 S f j v g i) := fun g i => by
  unfold up2; split
  · exact hv
  · exact hS g i
theorem nA (x : Int) (e : nptA x = true) (j : Int) : npt x j := npt_A e j
theorem rk_u6 (r : RK h a T S) {i : Int} (hi : 0 ≤ i ∧ i < T 1 0) {v : Int} (hv : I32 v) : RK (st h 338 (5 * a + i) v) a T (up2 S 6 i v) ∧ FrA a h (st h 338 (5 * a + i) v) := by
  have t1 := r.K.2.1
  have f := FrA_st (FrA_rf (a := a) r.w) (x := 338) (j := 5 * a + i) (by unfold inA; omega) (nA 338 (by decide +kernel) _) v
  exact ⟨RK_up r f ((sR_u6 hi v).trans (by rw [r.2.2.1])) (I32_u2 r.2.2.2 hv), f⟩
theorem rk_u7 (r : RK h a T S) {i : Int} (hi : 0 ≤ i ∧ i < T 2 0) {v : Int} (hv : I32 v) : RK (st h 339 (10 * a + i) v) a T (up2 S 7 i v) ∧ FrA a h (st h 339 (10 * a + i) v) := by
  have t2 := r.K.2.2.1
  have f := FrA_st (FrA_rf (a := a) r.w) (x := 339) (j := 10 * a + i) (by unfold inA; omega) (nA 339 (by decide +kernel) _) v
  exact ⟨RK_up r f ((sR_u7 hi v).trans (by rw [r.2.2.1])) (I32_u2 r.2.2.2 hv), f⟩
theorem rk_u8 (r : RK h a T S) {i : Int} (hi : 0 ≤ i ∧ i < T 2 0) {v : Int} (hv : I32 v) : RK (st h 340 (10 * a + i) v) a T (up2 S 8 i v) ∧ FrA a h (st h 340 (10 * a + i) v) := by
  have t2 := r.K.2.2.1
  have f := FrA_st (FrA_rf (a := a) r.w) (x := 340) (j := 10 * a + i) (by unfold inA; omega) (nA 340 (by decide +kernel) _) v
  exact ⟨RK_up r f ((sR_u8 hi v).trans (by rw [r.2.2.1])) (I32_u2 r.2.2.2 hv), f⟩
theorem rk_u9 (r : RK h a T S) {i : Int} (hi : 0 ≤ i ∧ i < T 2 0) {v : Int} (hv : I32 v) : RK (st h 341 (10 * a + i) v) a T (up2 S 9 i v) ∧ FrA a h (st h 341 (10 * a + i) v) := by
  have t2 := r.K.2.2.1
  have f := FrA_st (FrA_rf (a := a) r.w) (x := 341) (j := 10 * a + i) (by unfold inA; omega) (nA 341 (by decide +kernel) _) v
  exact ⟨RK_up r f ((sR_u9 hi v).trans (by rw [r.2.2.1])) (I32_u2 r.2.2.2 hv), f⟩
theorem rk_u0 (r : RK h a T S) {v : Int} (hv : I32 v) : RK (st h 333 a v) a T (up1 S 0 v) ∧ FrA a h (st h 333 a v) := by
  have f := FrA_st (FrA_rf (a := a) r.w) (x := 333) (j := a) (by unfold inA; omega) (nA 333 (by decide +kernel) _) v
  exact ⟨RK_up r f ((sR_u0 v).trans (by rw [r.2.2.1])) (I32_u1 r.2.2.2 hv), f⟩
theorem rk_u1 (r : RK h a T S) {v : Int} (hv : I32 v) : RK (st h 334 a v) a T (up1 S 1 v) ∧ FrA a h (st h 334 a v) := by
  have f := FrA_st (FrA_rf (a := a) r.w) (x := 334) (j := a) (by unfold inA; omega) (nA 334 (by decide +kernel) _) v
  exact ⟨RK_up r f ((sR_u1 v).trans (by rw [r.2.2.1])) (I32_u1 r.2.2.2 hv), f⟩
theorem rk_u2 (r : RK h a T S) {v : Int} (hv : I32 v) : RK (st h 335 a v) a T (up1 S 2 v) ∧ FrA a h (st h 335 a v) := by
  have f := FrA_st (FrA_rf (a := a) r.w) (x := 335) (j := a) (by unfold inA; omega) (nA 335 (by decide +kernel) _) v
  exact ⟨RK_up r f ((sR_u2 v).trans (by rw [r.2.2.1])) (I32_u1 r.2.2.2 hv), f⟩
/-- a piece changes hands -/
theorem rk_187 (r : RK h a T S) (hS5 : 0 ≤ S 5 0 ∧ S 5 0 ≤ 40) {p x : Int} (hp : 0 ≤ p ∧ p < T 2 0) (hx : 0 ≤ x ∧ x < 5) (d : Nat) : ∃ h', C d 187 [(2, 311), (0, a), (0, p), (0, x)] h = some ((9, 0), h') ∧ FrA a h h' ∧ RK h' a T (sOwn S p x) := by
  have w := r.w
  have ra := r.2.1
  obtain ⟨p1, -⟩ := pieT r.K hp
  obtain ⟨r1, f1⟩ := rk_u9 r hp (v := x) (I32_of (by omega))
  have w1 := r1.w
  have e5 : ld (st h 341 (10 * a + p) x) 342 a = S 5 0 := (rs5 r1).trans rfl
  have e0 : C d 187 [(2, 311), (0, a), (0, p), (0, x)] h = if S 5 0 = 40 then some ((9, 0), st h 341 (10 * a + p) x) else V d 187 28 [(2, 311), (0, a), (0, p), (0, x)] [] (st h 341 (10 * a + p) x) := by
    rw [ce_187, e187_0, if_pos (F_a311 w), P_311_44 w, if_pos (W_a341 w), w10 ra p1, L_a341 w, if_pos (by omega), e187_12, if_neg (by omega), if_pos (F_a311 w1), P_311_45 w1, if_pos (F_a342 w1), L_a342 w1, if_pos ra, e5, e187_27]
  generalize st h 341 (10 * a + p) x = h1 at *
  unfold sOwn
  by_cases q : S 5 0 = 40
  · rw [if_pos q] at e0
    rw [if_neg (by omega)]
    exact ⟨h1, e0, f1, r1⟩
  · rw [if_neg q] at e0
    rw [if_pos (by omega)]
    have hw : w32 (w32 (40 * a) + S 5 0) = 40 * a + S 5 0 := by unfold w32; omega
    have f2 := FrA_st f1 (x := 343) (j := 40 * a + S 5 0) (by unfold inA; omega) (nA 343 (by decide +kernel) _) p
    have w2 := f2.1
    have f3 := FrA_st f2 (x := 344) (j := 40 * a + S 5 0) (by unfold inA; omega) (nA 344 (by decide +kernel) _) x
    have w3 := f3.1
    have f4 := FrA_st f3 (x := 342) (j := a) (by unfold inA; omega) (nA 342 (by decide +kernel) _) (S 5 0 + 1)
    have g2 : ld (st h1 343 (40 * a + S 5 0) p) 342 a = S 5 0 := (ld_st_ne (Or.inl (by decide))).trans e5
    have g3 : ld (st (st h1 343 (40 * a + S 5 0) p) 344 (40 * a + S 5 0) x) 342 a = S 5 0 := (ld_st_ne (Or.inl (by decide))).trans g2
    refine ⟨_, ?_, f4, RT_A r.1 f4, ra, ?_, ?_⟩
    · rw [e0, e187_28, if_pos (F_a311 w1), if_pos (F_a311 w1), P_311_45 w1, if_pos (F_a342 w1), L_a342 w1, if_pos ra, P_311_46 w1, if_pos (W_a343 w1), e5, hw, L_a343 w1, if_pos (by omega), e187_45, if_pos (F_a311 w2), if_pos (F_a311 w2), P_311_45 w2, if_pos (F_a342 w2), L_a342 w2, if_pos ra, P_311_47 w2, if_pos (W_a344 w2), g2, hw, L_a344 w2, if_pos (by omega), e187_62, if_pos (F_a311 w3), P_311_45 w3, if_pos (F_a342 w3), L_a342 w3, if_pos ra, if_pos (W_a342 w3), if_pos ra, g3, show w32 (S 5 0 + 1) = S 5 0 + 1 by unfold w32; omega, e187_72]
    · have := sR_own (ns := T 1 0) (np := T 2 0) (h := h1) (a := a) (by rw [e5]; exact hS5.1) p x
      rw [e5] at this
      rw [this, r1.2.2.1]
    · intro f i
      have k1 := r1.2.2.2
      unfold upc
      split
      · exact I32_of (by show -2 ≤ S 5 0 + 1 ∧ S 5 0 + 1 < 100000; omega)
      split
      · exact I32_of (by omega)
      split
      · exact I32_of (by omega)
      · exact k1 f i
end RM
