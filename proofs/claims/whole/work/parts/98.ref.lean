/-! layer 2: the plain program: its cells, what is read of them -/
def RT (h : Hp) (T : Wd) : Prop := WF h ∧ tR h = T ∧ TOK T ∧ (∀ f i, I32 (T f i)) ∧ (∀ k : Int, 0 ≤ k → k < 3 → 0 ≤ ld h 329 k ∧ ld h 329 k ≤ ld h 330 k ∧ ld h 330 k ≤ 64) ∧ (0 ≤ ld h 313 5 ∧ ld h 313 5 ≤ 12)
def RK (h : Hp) (a : Int) (T S : Wd) : Prop := RT h T ∧ (0 ≤ a ∧ a < 23) ∧ sR h a (T 1 0) (T 2 0) = S ∧ (∀ f i, I32 (S f i))
section RB
variable {h h' : Hp} {a : Int} {T S : Wd}
theorem RT_eq (r : RT h T) (w : WF h') (e : ∀ x j : Int, 313 ≤ x → x ≤ 332 → ld h' x j = ld h x j) : RT h' T := by
  obtain ⟨-, r2, r3, r4, r5, r6⟩ := r
  refine ⟨w, ?_, r3, r4, fun k k0 k1 => by rw [e 329 k (by decide) (by decide), e 330 k (by decide) (by decide)]; exact r5 k k0 k1, by rw [e 313 5 (by decide) (by decide)]; exact r6⟩
  rw [← r2]
  have hh : hailAt h' = hailAt h := funext fun i => by
    unfold hailAt
    simp only [e 313 _ (by decide) (by decide), e 328 _ (by decide) (by decide)]
  unfold tR
  simp only [e 313 _ (by decide) (by decide), e 314 _ (by decide) (by decide), e 315 _ (by decide) (by decide), e 316 _ (by decide) (by decide), e 317 _ (by decide) (by decide), e 318 _ (by decide) (by decide), e 319 _ (by decide) (by decide), e 320 _ (by decide) (by decide), e 321 _ (by decide) (by decide), e 322 _ (by decide) (by decide), e 323 _ (by decide) (by decide), e 324 _ (by decide) (by decide), e 325 _ (by decide) (by decide), e 326 _ (by decide) (by decide), e 327 _ (by decide) (by decide), e 329 _ (by decide) (by decide), e 330 _ (by decide) (by decide), e 331 _ (by decide) (by decide), e 332 _ (by decide) (by decide), hh]
theorem sR_eq {ns np : Int} (e : ∀ x j : Int, 333 ≤ x → x ≤ 344 → ld h' x j = ld h x j) : sR h' a ns np = sR h a ns np := by
  unfold sR
  simp only [e 333 _ (by decide) (by decide), e 334 _ (by decide) (by decide), e 335 _ (by decide) (by decide), e 336 _ (by decide) (by decide), e 337 _ (by decide) (by decide), e 338 _ (by decide) (by decide), e 339 _ (by decide) (by decide), e 340 _ (by decide) (by decide), e 341 _ (by decide) (by decide), e 342 _ (by decide) (by decide), e 343 _ (by decide) (by decide), e 344 _ (by decide) (by decide)]
theorem RK_eq (r : RK h a T S) (w : WF h') (e : ∀ x j : Int, 313 ≤ x → x ≤ 344 → ld h' x j = ld h x j) : RK h' a T S :=
  ⟨RT_eq r.1 w (fun x j u v => e x j u (by omega)), r.2.1, (sR_eq (fun x j u v => e x j (by omega) v)).trans r.2.2.1, r.2.2.2⟩
theorem RT.w (r : RT h T) : WF h := r.1
theorem RT.K (r : RT h T) : TOK T := r.2.2.1
theorem RK.w (r : RK h a T S) : WF h := r.1.1
theorem RK.K (r : RK h a T S) : TOK T := r.1.2.2.1
theorem rt0 (r : RT h T) : ld h 313 0 = T 0 0 := congrFun (congrFun r.2.1 0) 0
theorem rt1 (r : RT h T) : ld h 313 1 = T 1 0 := congrFun (congrFun r.2.1 1) 0
theorem rt2 (r : RT h T) : ld h 313 2 = T 2 0 := congrFun (congrFun r.2.1 2) 0
theorem rt3 (r : RT h T) : ld h 313 3 = T 3 0 := congrFun (congrFun r.2.1 3) 0
theorem rt4 (r : RT h T) {i : Int} (hi : 0 ≤ i ∧ i < T 0 0) : ld h 314 i = T 4 i := by rw [← rt0 r] at hi; exact (rng_in hi).symm.trans (congrFun (congrFun r.2.1 4) i)
theorem rt5 (r : RT h T) {i : Int} (hi : 0 ≤ i ∧ i < T 0 0) : ld h 315 i = T 5 i := by rw [← rt0 r] at hi; exact (rng_in hi).symm.trans (congrFun (congrFun r.2.1 5) i)
theorem rt6 (r : RT h T) {i : Int} (hi : 0 ≤ i ∧ i < T 0 0) : ld h 316 i = T 6 i := by rw [← rt0 r] at hi; exact (rng_in hi).symm.trans (congrFun (congrFun r.2.1 6) i)
theorem rt7 (r : RT h T) {i : Int} (hi : 0 ≤ i ∧ i < T 1 0) : ld h 317 i = T 7 i := by rw [← rt1 r] at hi; exact (rng_in hi).symm.trans (congrFun (congrFun r.2.1 7) i)
theorem rt8 (r : RT h T) {i : Int} (hi : 0 ≤ i ∧ i < T 1 0) : ld h 318 i = T 8 i := by rw [← rt1 r] at hi; exact (rng_in hi).symm.trans (congrFun (congrFun r.2.1 8) i)
theorem rt9 (r : RT h T) {i : Int} (hi : 0 ≤ i ∧ i < T 1 0) : ld h 319 i = T 9 i := by rw [← rt1 r] at hi; exact (rng_in hi).symm.trans (congrFun (congrFun r.2.1 9) i)
theorem rt10 (r : RT h T) {i : Int} (hi : 0 ≤ i ∧ i < T 1 0) : ld h 320 i = T 10 i := by rw [← rt1 r] at hi; exact (rng_in hi).symm.trans (congrFun (congrFun r.2.1 10) i)
theorem rt11 (r : RT h T) {i : Int} (hi : 0 ≤ i ∧ i < T 1 0) : ld h 321 i = T 11 i := by rw [← rt1 r] at hi; exact (rng_in hi).symm.trans (congrFun (congrFun r.2.1 11) i)
theorem rt12 (r : RT h T) {i : Int} (hi : 0 ≤ i ∧ i < T 2 0) : ld h 322 i = T 12 i := by rw [← rt2 r] at hi; exact (rng_in hi).symm.trans (congrFun (congrFun r.2.1 12) i)
theorem rt13 (r : RT h T) {i : Int} (hi : 0 ≤ i ∧ i < T 2 0) : ld h 323 i = T 13 i := by rw [← rt2 r] at hi; exact (rng_in hi).symm.trans (congrFun (congrFun r.2.1 13) i)
theorem rt14 (r : RT h T) {i : Int} (hi : 0 ≤ i ∧ i < T 2 0) : ld h 324 i = T 14 i := by rw [← rt2 r] at hi; exact (rng_in hi).symm.trans (congrFun (congrFun r.2.1 14) i)
theorem rt15 (r : RT h T) {i : Int} (hi : 0 ≤ i ∧ i < T 3 0) : ld h 325 i = T 15 i := by rw [← rt3 r] at hi; exact (rng_in hi).symm.trans (congrFun (congrFun r.2.1 15) i)
theorem rt16 (r : RT h T) {i : Int} (hi : 0 ≤ i ∧ i < T 3 0) : ld h 326 i = T 16 i := by rw [← rt3 r] at hi; exact (rng_in hi).symm.trans (congrFun (congrFun r.2.1 16) i)
theorem rt17 (r : RT h T) {i : Int} (hi : 0 ≤ i ∧ i < T 3 0) : ld h 327 i = T 17 i := by rw [← rt3 r] at hi; exact (rng_in hi).symm.trans (congrFun (congrFun r.2.1 17) i)
theorem rs0 (r : RK h a T S) : ld h 333 a = S 0 0 := congrFun (congrFun r.2.2.1 0) 0
theorem rs1 (r : RK h a T S) : ld h 334 a = S 1 0 := congrFun (congrFun r.2.2.1 1) 0
theorem rs2 (r : RK h a T S) : ld h 335 a = S 2 0 := congrFun (congrFun r.2.2.1 2) 0
theorem rs3 (r : RK h a T S) : ld h 336 a = S 3 0 := congrFun (congrFun r.2.2.1 3) 0
theorem rs4 (r : RK h a T S) : and32 (ld h 337 a) (xor32 (ld h 336 a) (-1)) = S 4 0 := congrFun (congrFun r.2.2.1 4) 0
theorem rs5 (r : RK h a T S) : ld h 342 a = S 5 0 := congrFun (congrFun r.2.2.1 5) 0
theorem rs6 (r : RK h a T S) {i : Int} (hi : 0 ≤ i ∧ i < T 1 0) : ld h 338 (5 * a + i) = S 6 i := (rng_in hi).symm.trans (congrFun (congrFun r.2.2.1 6) i)
theorem rs7 (r : RK h a T S) {i : Int} (hi : 0 ≤ i ∧ i < T 2 0) : ld h 339 (10 * a + i) = S 7 i := (rng_in hi).symm.trans (congrFun (congrFun r.2.2.1 7) i)
theorem rs8 (r : RK h a T S) {i : Int} (hi : 0 ≤ i ∧ i < T 2 0) : ld h 340 (10 * a + i) = S 8 i := (rng_in hi).symm.trans (congrFun (congrFun r.2.2.1 8) i)
theorem rs9 (r : RK h a T S) {i : Int} (hi : 0 ≤ i ∧ i < T 2 0) : ld h 341 (10 * a + i) = S 9 i := (rng_in hi).symm.trans (congrFun (congrFun r.2.2.1 9) i)
theorem rs10 (r : RK h a T S) {i : Int} (hi : 0 ≤ i ∧ i < S 5 0) : ld h 343 (40 * a + i) = S 10 i := by rw [← rs5 r] at hi; exact (rng_in hi).symm.trans (congrFun (congrFun r.2.2.1 10) i)
theorem rs11 (r : RK h a T S) {i : Int} (hi : 0 ≤ i ∧ i < S 5 0) : ld h 344 (40 * a + i) = S 11 i := by rw [← rs5 r] at hi; exact (rng_in hi).symm.trans (congrFun (congrFun r.2.2.1 11) i)
theorem w10 (ha : 0 ≤ a ∧ a < 23) {p : Int} (hp : 0 ≤ p ∧ p < 10) : w32 (w32 (10 * a) + p) = 10 * a + p := by unfold w32; omega
theorem w5 (ha : 0 ≤ a ∧ a < 23) {p : Int} (hp : 0 ≤ p ∧ p < 5) : w32 (w32 (5 * a) + p) = 5 * a + p := by unfold w32; omega
theorem rk_180 (r : RT h T) (i : Int) (d : Nat) : C d 180 [(2, 311), (0, i)] h = some ((0, bI (qSit T i)), h) := by
  unfold qSit
  rw [ce_180, e180_0]
  by_cases q : i < 0
  · rw [if_pos q, e180_18, e180_19, if_pos (by decide)]; simp [q, bI]
  · rw [if_neg q, if_pos (F_a311 r.w), P_311_3 r.w, if_pos (F_a313 r.w), L_a313 r.w, if_pos (by decide), rt1 r]
    by_cases q2 : i < T 1 0
    · rw [if_pos q2, e180_14, e180_19, if_pos (by decide)]; simp [q, q2, bI]
    · rw [if_neg q2, e180_18, e180_19, if_pos (by decide)]; simp [q2, bI]
theorem rk_181 (r : RT h T) (i : Int) (d : Nat) : C d 181 [(2, 311), (0, i)] h = some ((0, bI (qFea T i)), h) := by
  unfold qFea
  rw [ce_181, e181_0]
  by_cases q : i < 0
  · rw [if_pos q, e181_18, e181_19, if_pos (by decide)]; simp [q, bI]
  · rw [if_neg q, if_pos (F_a311 r.w), P_311_3 r.w, if_pos (F_a313 r.w), L_a313 r.w, if_pos (by decide), rt0 r]
    by_cases q2 : i < T 0 0
    · rw [if_pos q2, e181_14, e181_19, if_pos (by decide)]; simp [q, q2, bI]
    · rw [if_neg q2, e181_18, e181_19, if_pos (by decide)]; simp [q2, bI]
theorem rk_182 (r : RT h T) (i : Int) (d : Nat) : C d 182 [(2, 311), (0, i)] h = some ((0, bI (qPie T i)), h) := by
  unfold qPie
  rw [ce_182, e182_0]
  by_cases q : i < 0
  · rw [if_pos q, e182_18, e182_19, if_pos (by decide)]; simp [q, bI]
  · rw [if_neg q, if_pos (F_a311 r.w), P_311_3 r.w, if_pos (F_a313 r.w), L_a313 r.w, if_pos (by decide), rt2 r]
    by_cases q2 : i < T 2 0
    · rw [if_pos q2, e182_14, e182_19, if_pos (by decide)]; simp [q, q2, bI]
    · rw [if_neg q2, e182_18, e182_19, if_pos (by decide)]; simp [q2, bI]
theorem rk_183 (r : RK h a T S) (i : Int) (d : Nat) : C d 183 [(2, 311), (0, a), (0, i)] h = some ((0, bI (qLiv S i)), h) := by
  have w := r.w
  unfold qLiv
  rw [ce_183, e183_0, if_pos (F_a311 w), P_311_38 w, if_pos (F_a335 w), L_a335 w, if_pos r.2.1, rs2 r]
  by_cases q : and32 (shr32 (S 2 0) i) 1 = 0
  · rw [if_pos q, e183_13, e183_18, if_pos (by decide)]; simp [q, bI]
  · rw [if_neg q, e183_17, e183_18, if_pos (by decide)]; simp [q, bI]
theorem and1_01 (x : Int) : and32 x 1 = 0 ∨ and32 x 1 = 1 := by
  rw [and32_1]; omega
theorem rk_184 (r : RK h a T S) (i : Int) (d : Nat) : C d 184 [(2, 311), (0, a), (0, i)] h = some ((0, bI (qLap S i)), h) := by
  have w := r.w
  unfold qLap
  rw [ce_184, e184_0, if_pos (F_a311 w), P_311_39 w, if_pos (F_a336 w), L_a336 w, if_pos r.2.1, rs3 r]
  rcases and1_01 (shr32 (S 3 0) i) with q | q
  · rw [if_neg (by omega), e184_18, e184_19, if_pos (by decide)]; simp [q, bI]
  · rw [if_pos q, e184_14, e184_19, if_pos (by decide)]; simp [q, bI]
theorem pieT (hT : TOK T) {p : Int} (hp : 0 ≤ p ∧ p < T 2 0) : (0 ≤ p ∧ p < 10) ∧ (0 ≤ T 12 p ∧ T 12 p < T 1 0) ∧ (0 ≤ T 13 p ∧ T 13 p < T 0 0) ∧ (0 ≤ T 12 p ∧ T 12 p < 5) ∧ (0 ≤ T 13 p ∧ T 13 p < 5) ∧ (0 ≤ T 14 p ∧ T 14 p < 100) := by
  obtain ⟨t0, t1, t2, t3, t4, t5, t6⟩ := hT
  obtain ⟨a1, a2, a3⟩ := t4 p hp.1 hp.2
  omega
/-- as many strokes as asked -/
def qFull (T S : Wd) (p : Int) : Bool := decide (S 8 p = tSize T p)
theorem rk_185 (r : RK h a T S) {p : Int} (hp : 0 ≤ p ∧ p < T 2 0) (d : Nat) : C d 185 [(2, 311), (0, a), (0, p)] h = some ((0, bI (qFull T S p)), h) := by
  have w := r.w
  obtain ⟨p1, p2, p3, p4, p5, p6⟩ := pieT r.K hp
  unfold qFull tSize
  rw [ce_185, e185_0, if_pos (F_a311 w), P_311_43 w, if_pos (F_a340 w), w10 r.2.1 p1, L_a340 w, if_pos (by have := r.2.1; omega), if_pos (F_a311 w), if_pos (F_a311 w), P_311_13 w, if_pos (F_a323 w), L_a323 w, if_pos (by omega), P_311_6 w, if_pos (F_a316 w), rt13 r.1 hp, L_a316 w, if_pos (by omega), rs8 r hp, rt6 r.1 p3]
  by_cases q : S 8 p = T 6 (T 13 p)
  · rw [if_pos q, e185_25, e185_30, if_pos (by decide)]; simp [q, bI]
  · rw [if_neg q, e185_29, e185_30, if_pos (by decide)]; simp [q, bI]
theorem lpC2 {G : Int → Int → Option MR} {f : Int → Bool} {N : Int} {h : Hp} (hN : 0 ≤ N) (he : ∀ c, G N c = some ((0, c), h)) (hs : ∀ k c, 0 ≤ k → k < N → 0 ≤ c → c ≤ k → G k c = G (k + 1) (if f k = true then c + 1 else c)) : G 0 0 = some ((0, cnf f N.toNat 0 0), h) := by
  have key : ∀ (n : Nat) (k c : Int), 0 ≤ k → k + n = N → 0 ≤ c → c ≤ k → G k c = some ((0, cnf f n k c), h) := by
    intro n
    induction n with
    | zero => intro k c _ e _ _; rw [show k = N by omega]; exact he c
    | succ n ih =>
      intro k c k0 e c0 ck
      rw [hs k c k0 (by omega) c0 ck, ih (k + 1) _ (by omega) (by omega) (by split <;> omega) (by split <;> omega)]
      rfl
  exact key N.toNat 0 0 (by decide) (by omega) (by decide) (by decide)
theorem rk_186 (r : RK h a T S) (x : Int) (d : Nat) : C d 186 [(2, 311), (0, a), (0, x)] h = some ((0, sOwned T S x), h) := by
  have w := r.w
  have t2 := r.K.2.2.1
  rw [ce_186, e186_0]
  unfold sOwned
  refine lpC2 (N := T 2 0) (G := fun k c => V d 186 5 [(2, 311), (0, a), (0, x), (0, c), (0, k)] [] h) t2.1 (fun c => ?_) (fun k c k0 k1 c0 ck => ?_)
  · show V d 186 5 _ _ _ = _
    rw [e186_5, if_pos (F_a311 w), P_311_3 w, if_pos (F_a313 w), L_a313 w, if_pos (by decide), rt2 r.1, if_neg (by omega), e186_46]
  · show V d 186 5 _ _ _ = V d 186 5 _ _ _
    have wk1 : w32 (k + 1) = k + 1 := by unfold w32; omega
    rw [e186_5, if_pos (F_a311 w), P_311_3 w, if_pos (F_a313 w), L_a313 w, if_pos (by decide), rt2 r.1, if_pos k1, e186_16, if_pos (F_a311 w), P_311_44 w, if_pos (F_a341 w), w10 r.2.1 (by omega), L_a341 w, if_pos (by have := r.2.1; omega), rs9 r ⟨k0, k1⟩]
    by_cases q : S 9 k = x
    · rw [if_pos q, e186_38, wk1, if_pos (decide_eq_true q), show w32 (c + 1) = c + 1 by unfold w32; omega]
    · rw [if_neg q, e186_37, e186_38, wk1, if_neg (by simp [q]), show w32 (c + 0) = c by unfold w32; omega]
theorem rk_192 (r : RT h T) {k : Nat} (hk : k < 3) (d : Nat) : C d 192 [(2, 311), (0, (k : Int))] h = some ((0, bI (decide (0 < T (19 + k) 0))), h) := by
  have w := r.w
  have b := r.2.2.2.2.1 (k : Int) (by omega) (by omega)
  have e : T (19 + k) 0 = ld h 330 (k : Int) - ld h 329 (k : Int) := by
    rw [← r.2.1]
    have h3 : k = 0 ∨ k = 1 ∨ k = 2 := by omega
    rcases h3 with rfl | rfl | rfl <;> rfl
  rw [ce_192, e192_0, if_pos (F_a311 w), P_311_20 w, if_pos (F_a330 w), L_a330 w, if_pos (by omega), if_pos (F_a311 w), P_311_19 w, if_pos (F_a329 w), L_a329 w, if_pos (by omega), e]
  by_cases q : ld h 329 (k : Int) < ld h 330 (k : Int)
  · rw [if_pos q, e192_15, e192_20, if_pos (by decide), decide_eq_true (by omega)]; rfl
  · rw [if_neg q, e192_19, e192_20, if_pos (by decide), decide_eq_false (by omega)]; rfl
end RB
