/-! layer 2: the plain program hangs the gallery -/
def wx (T S : Wd) : Nat → Int → Nat → Cn → Option Cn
  | 0, _, _, A => some A
  | j + 1, k, c, A => if c.testBit j = true then wx T S j (k + 1) c A else if sCan T S k (-1) 0 = true then wx T S j (k + 1) c (tk (cnd T S k) A) else none
theorem wx_s {T S : Wd} (j : Nat) (k : Int) (c : Nat) (A : Cn) : wx T S (j + 1) k c A = if c.testBit j = true then wx T S j (k + 1) c A else if sCan T S k (-1) 0 = true then wx T S j (k + 1) c (tk (cnd T S k) A) else none := rfl
def bx (free : Int) (o : Option Cn) : Option Cn → Option Cn
  | none => o
  | some A => btr free o A
def upx (f : Nat → Option Cn) (free : Int) : Nat → Nat → Option Cn → Option Cn
  | 0, _, o => o
  | n + 1, s, o => upx f free n (s + 1) (bx free o (f s))
theorem upx_add (f : Nat → Option Cn) (free : Int) (b : Nat) : ∀ (a s : Nat) (o : Option Cn), upx f free (a + b) s o = upx f free b (s + a) (upx f free a s o)
  | 0, s, o => by rw [Nat.zero_add]; rfl
  | a + 1, s, o => by
    rw [show a + 1 + b = (a + b) + 1 by omega]
    show upx f free (a + b) (s + 1) _ = upx f free b (s + (a + 1)) (upx f free a (s + 1) _)
    rw [upx_add f free b a (s + 1), show s + 1 + a = s + (a + 1) by omega]
theorem upx_ext {f g : Nat → Option Cn} {free : Int} : ∀ (n s t : Nat) (o : Option Cn), (∀ r, r < n → f (s + r) = g (t + r)) → upx f free n s o = upx g free n t o
  | 0, _, _, _, _ => rfl
  | n + 1, s, t, o, e => by
    show upx f free n (s + 1) (bx free o (f s)) = upx g free n (t + 1) (bx free o (g t))
    have e0 : f s = g t := e 0 (by omega)
    rw [e0]
    exact upx_ext n _ _ _ (fun r hr => by rw [show s + 1 + r = s + (r + 1) by omega, show t + 1 + r = t + (r + 1) by omega]; exact e (r + 1) (by omega))
theorem upx_no {f : Nat → Option Cn} {free : Int} : ∀ (n s : Nat) (o : Option Cn), (∀ r, r < n → f (s + r) = none) → upx f free n s o = o
  | 0, _, _, _ => rfl
  | n + 1, s, o, e => by
    show upx f free n (s + 1) (bx free o (f s)) = o
    have e0 : f s = none := e 0 (by omega)
    rw [e0]
    exact upx_no n _ _ (fun r hr => by rw [show s + 1 + r = s + (r + 1) by omega]; exact e (r + 1) (by omega))
theorem wx_hi {T S : Wd} : ∀ (j : Nat) (k : Int) (i r : Nat) (A : Cn), j ≤ i → wx T S j k (2 ^ i + r) A = wx T S j k r A
  | 0, _, _, _, _, _ => rfl
  | j + 1, k, i, r, A, h => by
    rw [wx_s, wx_s, Nat.testBit_two_pow_add_gt (by omega), wx_hi j _ i r _ (by omega), wx_hi j _ i r _ (by omega)]
theorem upx_all {T S : Wd} (free : Int) : ∀ (j : Nat) (k : Int) (A : Cn) (o : Option Cn), upx (fun c => wx T S j k c A) free (2 ^ j) 0 o = (allS (cands T S j k) A).foldl (btr free) o
  | 0, _, _, _ => rfl
  | j + 1, k, A, o => by
    have lo : ∀ r, r < 2 ^ j → r.testBit j = false := fun r hr => Nat.testBit_lt_two_pow hr
    have hi : ∀ r, r < 2 ^ j → (2 ^ j + r).testBit j = true := fun r hr => by rw [Nat.testBit_two_pow_add_eq, lo r hr]; rfl
    have e2 : ∀ o', upx (fun c => wx T S (j + 1) k c A) free (2 ^ j) (0 + 2 ^ j) o' = (allS (cands T S j (k + 1)) A).foldl (btr free) o' := fun o' => by
      rw [← upx_all free j (k + 1) A o']
      refine upx_ext _ _ _ _ (fun r hr => ?_)
      show wx T S (j + 1) k (0 + 2 ^ j + r) A = wx T S j (k + 1) (0 + r) A
      rw [wx_s, Nat.zero_add, Nat.zero_add, hi r hr, if_pos rfl]
      exact wx_hi j _ j r A (Nat.le_refl _)
    rw [Nat.pow_succ, Nat.mul_two, upx_add, e2]
    show _ = (allS (if sCan T S k (-1) 0 = true then cnd T S k :: cands T S j (k + 1) else cands T S j (k + 1)) A).foldl (btr free) o
    cases hc : sCan T S k (-1) 0 with
    | true =>
      rw [if_pos rfl]
      show _ = (allS (cands T S j (k + 1)) (tk (cnd T S k) A) ++ allS (cands T S j (k + 1)) A).foldl (btr free) o
      rw [List.foldl_append, ← upx_all free j (k + 1) (tk (cnd T S k) A) o]
      congr 1
      refine upx_ext _ _ _ _ (fun r hr => ?_)
      show wx T S (j + 1) k (0 + r) A = wx T S j (k + 1) (0 + r) _
      rw [wx_s, Nat.zero_add, lo r hr, if_neg (by decide), hc, if_pos rfl]
    | false =>
      rw [if_neg (by decide)]
      congr 1
      refine upx_no _ _ _ (fun r hr => ?_)
      show wx T S (j + 1) k (0 + r) A = none
      rw [wx_s, Nat.zero_add, lo r hr, if_neg (by decide), hc, if_neg (by decide)]
def msk : Nat → Int → Nat → Int → Int
  | 0, _, _, a => a
  | j + 1, k, c, a => if c.testBit j = true then msk j (k + 1) c a else msk j (k + 1) c (or32 a (shl32 1 k))
theorem wx_msk {T S : Wd} : ∀ (j : Nat) (k : Int) (c : Nat) (A B : Cn), wx T S j k c A = some B → B.1 = msk j k c A.1
  | 0, _, _, A, B, e => by cases e; rfl
  | j + 1, k, c, A, B, e => by
    unfold wx at e
    unfold msk
    split at e
    · rename_i q
      rw [if_pos q]; exact wx_msk j _ c A B e
    · rename_i q
      rw [if_neg q]
      split at e
      · exact wx_msk j _ c _ B e
      · cases e
section GA
variable {h h' : Hp} {z : Zt} {n : Int}
def PG (h : Hp) (z : Zt) : Option Cn → Prop
  | none => ld h 311 58 = -1
  | some B => ∃ c : Nat, c < 2 ^ (z.T 2 0).toNat ∧ ld h 311 58 = (c : Int) ∧ wx z.T z.S (z.T 2 0).toNat 0 c (0, 0, 0) = some B ∧ ld h 311 59 = B.2.1 ∧ ld h 311 60 = B.2.2
theorem PG_eq {o : Option Cn} (p : PG h z o) (e : ∀ j, 58 ≤ j → j ≤ 60 → ld h' 311 j = ld h 311 j) : PG h' z o := by
  cases o with
  | none => exact (e 58 (by decide) (by decide)).trans p
  | some B =>
    obtain ⟨c, c1, c2, c3, c4, c5⟩ := p
    exact ⟨c, c1, (e 58 (by decide) (by decide)).trans c2, c3, (e 59 (by decide) (by decide)).trans c4, (e 60 (by decide) (by decide)).trans c5⟩
theorem gal_in {N free : Int} (hN : z.T 2 0 = N) (c : Nat) (d : Nat) : ∀ (j : Nat) (k : Int) (A : Cn) (h : Hp), RR n h z → 0 ≤ k → k + j = N → ∃ h' a b y, V (d + 8) 211 84 [(2, 311), (9, 0), (0, free), (0, (c : Int)), (0, A.2.1), (0, A.2.2), (0, 1), (0, k)] [] h = V (d + 8) 211 190 [(2, 311), (9, 0), (0, free), (0, (c : Int)), (0, a), (0, b), (0, y), (9, 0)] [] h' ∧ FrW h h' ∧ RR n h' z ∧ (wx z.T z.S j k c A = none → y = 0) ∧ (∀ B, wx z.T z.S j k c A = some B → y = 1 ∧ a = B.2.1 ∧ b = B.2.2)
  | 0, k, A, h, cc, k0, hk => by
    have w := cc.k.w
    refine ⟨h, A.2.1, A.2.2, 1, ?_, FrW_rf w, cc, (fun e => by cases e), (fun B e => by cases e; exact ⟨rfl, rfl, rfl⟩)⟩
    rw [e211_84, if_pos (F_a311 w), P_311_3 w, if_pos (F_a313 w), L_a313 w, if_pos (by decide), rt2 cc.k.1, hN, if_neg (by omega)]
  | j + 1, k, A, h, cc, k0, hk => by
    have w := cc.k.w
    have t2 := cc.k.K.2.2.1
    have hp : 0 ≤ k ∧ k < z.T 2 0 := ⟨k0, by omega⟩
    obtain ⟨p1, p2, p3, p4, p5, p6⟩ := pieT cc.k.K hp
    have wk : w32 (k + 1) = k + 1 := by unfold w32; omega
    have wj : w32 (w32 (z.T 2 0 - 1) - k) = ((j : Nat) : Int) := by
      rw [show w32 (z.T 2 0 - 1) = z.T 2 0 - 1 by unfold w32; omega]
      unfold w32; omega
    have hb := bitN c j (by omega)
    have e184 : ∀ a b y h1, V (d + 8) 211 184 [(2, 311), (9, 0), (0, free), (0, (c : Int)), (0, a), (0, b), (0, y), (0, k)] [] h1 = V (d + 8) 211 84 [(2, 311), (9, 0), (0, free), (0, (c : Int)), (0, a), (0, b), (0, y), (0, k + 1)] [] h1 := fun a b y h1 => by rw [e211_184, wk]
    have e0 : V (d + 8) 211 84 [(2, 311), (9, 0), (0, free), (0, (c : Int)), (0, A.2.1), (0, A.2.2), (0, 1), (0, k)] [] h = if c.testBit j = true then V (d + 8) 211 84 [(2, 311), (9, 0), (0, free), (0, (c : Int)), (0, A.2.1), (0, A.2.2), (0, 1), (0, k + 1)] [] h else V (d + 8) 211 122 [(2, 311), (9, 0), (0, free), (0, (c : Int)), (0, A.2.1), (0, A.2.2), (9, 0), (0, k)] [] h := by
      rw [e211_84, if_pos (F_a311 w), P_311_3 w, if_pos (F_a313 w), L_a313 w, if_pos (by decide), rt2 cc.k.1, hN, if_pos (by omega), e211_95, if_neg (by decide), if_pos (F_a311 w), P_311_3 w, if_pos (F_a313 w), L_a313 w, if_pos (by decide), rt2 cc.k.1, wj, hb]
      by_cases q : c.testBit j = true
      · rw [if_pos q, if_pos rfl, if_pos q, e211_119, e184]
      · rw [if_neg q, if_neg (by decide), if_neg q]
    rw [e0]
    rw [wx_s]
    by_cases q : c.testBit j = true
    · rw [if_pos q, if_pos q]
      exact gal_in hN c d j (k + 1) A h cc (by omega) (by omega)
    · rw [if_neg q, if_neg q]
      obtain ⟨h1, a1, f1⟩ := rk_198 cc.k cc.tx.1 hp d
      have c1 := RR_W cc f1
      have w1 := c1.k.w
      have t53 := cc.t53
      have hcan : sCan z.T z.S k (-1) 0 = rCan z.T z.S (decide (ld h 311 53 = 4)) k := by
        rw [sCan_r cc.iv hp, t53]
        show (_ && !(decide ((-1 : Int) = 2) && _)) = _
        rw [decide_eq_false (by decide : ¬ (-1 : Int) = 2), Bool.false_and, Bool.not_false, Bool.and_true]
      rw [hcan, e211_122, if_pos (F_a311 w), Cl_eq _ a1]
      have e156 : ∀ s0 y h2, RR n h2 z → V (d + 8) 211 156 [(2, 311), (9, 0), (0, free), (0, (c : Int)), (9, 0), (0, A.2.2), (0, y), (0, k)] [(0, s0), (0, A.2.1)] h2 = V (d + 8) 211 84 [(2, 311), (9, 0), (0, free), (0, (c : Int)), (0, w32 (A.2.1 + s0)), (0, w32 (A.2.2 + w32 (tSize z.T k - z.S 8 k))), (0, y), (0, k + 1)] [] h2 := fun s0 y h2 c2 => by
        have w2 := c2.k.w
        have e8 : ld h2 340 k = z.S 8 k := by
          have := rs8 c2.k hp
          rw [show 10 * (0 : Int) + k = k by omega] at this; exact this
        rw [e211_156, if_pos (F_a311 w2), if_pos (F_a311 w2), P_311_13 w2, if_pos (F_a323 w2), L_a323 w2, if_pos (by omega), P_311_6 w2, if_pos (F_a316 w2), rt13 c2.k.1 hp, L_a316 w2, if_pos (by omega), if_pos (F_a311 w2), P_311_43 w2, if_pos (F_a340 w2), L_a340 w2, if_pos (by omega), rt6 c2.k.1 p3, e184, e8]
        rfl
      cases hc : rCan z.T z.S (decide (ld h 311 53 = 4)) k with
      | false =>
        rw [if_neg (by decide), e211_131, if_pos bI_f, e211_155, e156 0 _ h1 c1]
        refine ⟨h1, w32 (A.2.1 + 0), w32 (A.2.2 + w32 (tSize z.T k - z.S 8 k)), 0, ?_, f1, c1, fun _ => rfl, (fun B e => by cases e)⟩
        rw [e211_84, if_pos (F_a311 w1), P_311_3 w1, if_pos (F_a313 w1), L_a313 w1, if_pos (by decide), rt2 c1.k.1]
        show (if k + 1 < z.T 2 0 then _ else _) = _
        by_cases y : k + 1 < z.T 2 0
        · rw [if_pos y, e211_95, if_pos bI_f]; try rfl
        · rw [if_neg y]; try rfl
      | true =>
        obtain ⟨h2, a2, f2⟩ := rk_197 c1.k cc.tx.1 hp (d + 2)
        have c2 := RR_W c1 f2
        have w2 := c2.k.w
        rw [if_pos rfl, e211_131, if_neg (by decide), if_pos (F_a311 w1), Cl_eq _ a2, Cl_eq _ (rk_194 _ _ _ (by decide) (d + 6)), e156 _ _ h2 c2]
        obtain ⟨h3, a, b, y, x1, x2, x3, x4, x5⟩ := gal_in hN c d j (k + 1) (tk (cnd z.T z.S k) A) h2 c2 (by omega) (by omega)
        exact ⟨h3, a, b, y, x1, FrW_tr f1 (FrW_tr f2 x2), x3, x4, x5⟩
theorem n311_58 : npt 311 58 := npt_J (by decide +kernel)
theorem n311_59 : npt 311 59 := npt_J (by decide +kernel)
theorem n311_60 : npt 311 60 := npt_J (by decide +kernel)
theorem RR_st {j : Int} (c : RR n h z) (hn : npt 311 j) (hj : 58 ≤ j ∧ j ≤ 66) (v : Int) : RR n (st h 311 j v) z ∧ FrM h (st h 311 j v) := ⟨RR_keep c (wf_st c.k.w hn) (fun x i e => ld_st_ne (by unfold rz at e; omega)), FrM_st FrM_rf (by decide) _ _⟩
theorem gal_out {N : Nat} {free : Int} (hN : z.T 2 0 = N) (hN2 : N ≤ 10) (d : Nat) : ∀ (m c : Nat) (o : Option Cn) (h : Hp), RR n h z → PG h z o → c + m = 2 ^ N → ∃ h', V (d + 8) 211 60 [(2, 311), (9, 0), (0, free), (0, (c : Int)), (9, 0), (9, 0), (9, 0), (9, 0)] [] h = some ((9, 0), h') ∧ RR n h' z ∧ FrM h h' ∧ PG h' z (upx (fun c => wx z.T z.S N 0 c (0, 0, 0)) free m c o)
  | 0, c, o, h, cc, pg, hk => by
    have w := cc.k.w
    refine ⟨h, ?_, cc, FrM_rf, pg⟩
    rw [e211_60, if_pos (F_a311 w), P_311_3 w, if_pos (F_a313 w), L_a313 w, if_pos (by decide), rt2 cc.k.1, hN, shl1_n (by omega), e211_69, if_neg (by omega), e211_265]
  | m + 1, c, o, h, cc, pg, hk => by
    have w := cc.k.w
    have h10 : 2 ^ N ≤ 2 ^ 10 := Nat.pow_le_pow_right (by decide) hN2
    have hNt : (z.T 2 0).toNat = N := by omega
    obtain ⟨h1, a, b, y, x1, x2, x3, x4, x5⟩ := gal_in (free := free) hN c d N 0 (0, 0, 0) h cc (by decide) (by omega)
    have pg1 : PG h1 z o := PG_eq pg (fun j j0 j1 => x2.2.2 311 j (by decide) (by decide) (by omega))
    have wc : w32 ((c : Int) + 1) = ((c + 1 : Nat) : Int) := by unfold w32; omega
    have e259 : ∀ h2, V (d + 8) 211 259 [(2, 311), (9, 0), (0, free), (0, (c : Int)), (9, 0), (9, 0), (9, 0), (9, 0)] [] h2 = V (d + 8) 211 60 [(2, 311), (9, 0), (0, free), (0, ((c + 1 : Nat) : Int)), (9, 0), (9, 0), (9, 0), (9, 0)] [] h2 := fun h2 => by rw [e211_259, wc]
    have e60 : V (d + 8) 211 60 [(2, 311), (9, 0), (0, free), (0, (c : Int)), (9, 0), (9, 0), (9, 0), (9, 0)] [] h = V (d + 8) 211 190 [(2, 311), (9, 0), (0, free), (0, (c : Int)), (0, a), (0, b), (0, y), (9, 0)] [] h1 := by
      rw [e211_60, if_pos (F_a311 w), P_311_3 w, if_pos (F_a313 w), L_a313 w, if_pos (by decide), rt2 cc.k.1, hN, shl1_n (by omega), e211_69, if_pos (by omega), e211_72]
      exact x1
    have w1 := x3.k.w
    rw [e60]
    show ∃ h', _ ∧ _ ∧ _ ∧ PG h' z (upx (fun c => wx z.T z.S N 0 c (0, 0, 0)) free m (c + 1) (bx free o (wx z.T z.S N 0 c (0, 0, 0))))
    have go : ∀ h2 o2, RR n h2 z → FrM h h2 → PG h2 z o2 → ∃ h', V (d + 8) 211 259 [(2, 311), (9, 0), (0, free), (0, (c : Int)), (9, 0), (9, 0), (9, 0), (9, 0)] [] h2 = some ((9, 0), h') ∧ RR n h' z ∧ FrM h h' ∧ PG h' z (upx (fun c => wx z.T z.S N 0 c (0, 0, 0)) free m (c + 1) o2) := fun h2 o2 c2 f2 g2 => by
      obtain ⟨h', b1, b2, b3, b4⟩ := gal_out hN hN2 d m (c + 1) o2 h2 c2 g2 (by omega)
      exact ⟨h', by rw [e259, b1], b2, FrM_tr f2 b3, b4⟩
    have f1 := FrM_W x2
    cases hw : wx z.T z.S N 0 c (0, 0, 0) with
    | none =>
      rw [e211_190, if_pos (x4 hw)]
      exact go h1 _ x3 f1 pg1
    | some B =>
      obtain ⟨y1, ya, yb⟩ := x5 B hw
      rw [e211_190, if_neg (by omega)]
      show ∃ h', _ ∧ _ ∧ _ ∧ PG h' z (upx _ free m (c + 1) (btr free o B))
      unfold btr
      by_cases q : free < B.2.2
      · rw [if_pos (by omega), if_pos q, e211_201]
        exact go h1 _ x3 f1 pg1
      · rw [if_neg (by omega), if_neg q, e211_204, if_pos (F_a311 w1)]
        have sto : ∃ h', V (d + 8) 211 242 [(2, 311), (9, 0), (0, free), (0, (c : Int)), (0, a), (0, b), (9, 0), (9, 0)] [] h1 = some ((9, 0), h') ∧ RR n h' z ∧ FrM h h' ∧ PG h' z (upx (fun c => wx z.T z.S N 0 c (0, 0, 0)) free m (c + 1) (some B)) := by
          obtain ⟨c2, g2⟩ := RR_st x3 n311_58 (by decide) (c : Int)
          obtain ⟨c3, g3⟩ := RR_st c2 n311_59 (by decide) a
          obtain ⟨c4, g4⟩ := RR_st c3 n311_60 (by decide) b
          rw [e211_242, if_pos (W_a311 w1), if_pos (W_a311 c2.k.w), e211_253, if_pos (W_a311 c3.k.w)]
          refine go _ _ c4 (FrM_tr f1 (FrM_tr g2 (FrM_tr g3 g4))) ⟨c, by rw [hNt]; omega, ?_, by rw [hNt]; exact hw, ?_, ?_⟩
          · rw [ld_st_ne (by omega), ld_st_ne (by omega), ld_st_eq]
          · rw [ld_st_ne (by omega), ld_st_eq]; exact ya
          · rw [ld_st_eq]; exact yb
        cases o with
        | none =>
          have pg1 : ld h1 311 58 = -1 := pg1
          rw [if_pos pg1]
          exact sto
        | some C =>
          obtain ⟨u, u1, u2, u3, u4, u5⟩ := id pg1
          rw [if_neg (by omega), if_pos (F_a311 w1), u4]
          show ∃ h', _ ∧ _ ∧ _ ∧ PG h' z (upx _ free m (c + 1) (if C.2.1 < B.2.1 ∨ (B.2.1 = C.2.1 ∧ B.2.2 < C.2.2) then some B else some C))
          by_cases q2 : a < C.2.1
          · rw [if_pos q2, if_neg (by omega)]
            exact go h1 _ x3 f1 pg1
          · rw [if_neg q2, e211_221, if_pos (F_a311 w1), u4]
            by_cases q3 : a = C.2.1
            · rw [if_pos q3, if_pos (F_a311 w1), u5]
              by_cases q4 : b < C.2.2
              · rw [if_pos q4, if_pos (by omega)]; exact sto
              · rw [if_neg q4, if_neg (by omega), e211_239]
                exact go h1 _ x3 f1 pg1
            · rw [if_neg q3, if_pos (by omega)]; exact sto
theorem gal_free (c : RR n h z) {x : Int} (d : Nat) : ∀ (m : Nat) (i a : Int), 0 ≤ a → a ≤ i → i + m = 100 → 0 ≤ i → V (d + 1) 211 13 [(2, 311), (0, x), (0, a), (0, i), (9, 0), (9, 0), (9, 0), (9, 0)] [] h = V (d + 1) 211 53 [(2, 311), (9, 0), (0, gfr z.T (w32 (z.S 0 0 + x)) m i a), (9, 0), (9, 0), (9, 0), (9, 0), (9, 0)] [] h
  | 0, i, a, a0, a1, hi, i0 => by
    have w := c.k.w
    unfold gfr
    rw [e211_13, if_pos (F_a311 w), P_311_36 w, if_pos (F_a333 w), L_a333 w, if_pos (by decide), rs0 c.k]
    by_cases q : i < w32 (z.S 0 0 + x)
    · rw [if_pos q, e211_25, if_neg (by omega)]
    · rw [if_neg q]
  | m + 1, i, a, a0, a1, hi, i0 => by
    have w := c.k.w
    have t53 := c.t53
    have wi : w32 (i + 1) = i + 1 := by unfold w32; omega
    unfold gfr
    rw [e211_13, if_pos (F_a311 w), P_311_36 w, if_pos (F_a333 w), L_a333 w, if_pos (by decide), rs0 c.k]
    by_cases q : i < w32 (z.S 0 0 + x)
    · rw [if_pos q, if_pos q, e211_25, if_pos (by omega), if_pos (F_a311 w), Cl_eq _ (rk_201 c.k.1 ⟨i0, by omega⟩ d), t53, decide_eq_false (by decide : ¬ (-1 : Int) = 0), Bool.not_false, Bool.true_and]
      cases qHail z.T i with
      | true => rw [if_neg (by decide), e211_45, wi, if_pos rfl, show w32 (a + 0) = a + 0 by unfold w32; omega]; exact gal_free c d m (i + 1) _ (by omega) (by omega) (by omega) (by omega)
      | false => rw [if_pos bI_f, e211_44, e211_45, wi, if_neg (by decide), show w32 (a + 1) = a + 1 by unfold w32; omega]; exact gal_free c d m (i + 1) _ (by omega) (by omega) (by omega) (by omega)
    · rw [if_neg q, if_neg q]
theorem rk_211 (c : RR n h z) (x : Int) (hd : z.S 0 0 ≤ 100) (d : Nat) : ∃ h', C (d + 8) 211 [(2, 311), (0, x)] h = some ((9, 0), h') ∧ RR n h' z ∧ FrM h h' ∧ PG h' z (gBest z.T z.S x) := by
  have w := c.k.w
  have t2 := c.k.K.2.2.1
  have d0 := c.iv.2.2.2.2.1
  obtain ⟨c1, f1⟩ := RR_st c n311_58 (by decide) (-1)
  have p0 : PG (st h 311 58 (-1)) z none := ld_st_eq _ _ _ _
  have hN : z.T 2 0 = (((z.T 2 0).toNat : Nat) : Int) := by omega
  obtain ⟨h', a1, a2, a3, a4⟩ := gal_out (free := gFree z.T z.S x) hN (by omega) d (2 ^ (z.T 2 0).toNat) 0 none _ c1 p0 (by omega)
  refine ⟨h', ?_, a2, FrM_tr f1 a3, ?_⟩
  · rw [ce_211, e211_0, if_pos (F_a311 w), Cl_eq _ (RR_plain c _), if_pos (F_a311 w), P_311_36 w, if_pos (F_a333 w), L_a333 w, if_pos (by decide), rs0 c.k, gal_free c (d + 7) (100 - z.S 0 0).toNat (z.S 0 0) 0 (by decide) (by omega) (by omega) (by omega), e211_53, if_pos (W_a311 w)]
    exact a1
  · rw [upx_all] at a4; exact a4
theorem gal_msk {B : Nat} (c : RR n h z) (e58 : ld h 311 58 = (B : Int)) (d : Nat) : ∀ (j : Nat) (k a : Int), 0 ≤ k → k + j = z.T 2 0 → (0 ≤ a ∧ a < 1024) → V d 212 57 [(2, 311), (9, 0), (9, 0), (0, a), (0, k)] [] h = some ((0, msk j k B a), h)
  | 0, k, a, k0, hk, ha => by
    have w := c.k.w
    rw [e212_57, if_pos (F_a311 w), P_311_3 w, if_pos (F_a313 w), L_a313 w, if_pos (by decide), rt2 c.k.1, if_neg (by omega), e212_106]
    rfl
  | j + 1, k, a, k0, hk, ha => by
    have w := c.k.w
    have t2 := c.k.K.2.2.1
    have wk : w32 (k + 1) = k + 1 := by unfold w32; omega
    have wj : w32 (w32 (z.T 2 0 - 1) - k) = ((j : Nat) : Int) := by
      rw [show w32 (z.T 2 0 - 1) = z.T 2 0 - 1 by unfold w32; omega]
      unfold w32; omega
    unfold msk
    rw [e212_57, if_pos (F_a311 w), P_311_3 w, if_pos (F_a313 w), L_a313 w, if_pos (by decide), rt2 c.k.1, if_pos (by omega), e212_68, if_pos (F_a311 w), if_pos (F_a311 w), P_311_3 w, if_pos (F_a313 w), L_a313 w, if_pos (by decide), rt2 c.k.1, wj, e58, bitN _ _ (by omega)]
    by_cases q : B.testBit j = true
    · rw [if_pos q, if_neg (by decide), if_pos q, e212_97, e212_98, or32_00 (by unfold I32; omega), wk]
      exact gal_msk c e58 d j (k + 1) a (by omega) (by omega) ha
    · rw [if_neg q, if_pos rfl, if_neg q, e212_98, wk]
      exact gal_msk c e58 d j (k + 1) _ (by omega) (by omega) (bit_or ha ⟨k0, by omega⟩).1
theorem rk_212 (c : RR n h z) (x y : Int) (hd : z.S 0 0 ≤ 100) (d : Nat) : OPr n h z (d + 9) 212 [(2, 311), (0, x), (0, y)] 0 (zGallery x y z) n z := by
  obtain ⟨c0, f0⟩ := RR_0 c 0
  have w := c.k.w
  have w0 := c0.k.w
  have e0 : C (d + 9) 212 [(2, 311), (0, x), (0, y)] h = if x < 0 then V (d + 9) 212 24 [(9, 0), (9, 0), (9, 0), (9, 0), (9, 0)] [] (st h 311 0 0) else V (d + 9) 212 9 [(2, 311), (0, x), (0, y), (9, 0), (9, 0)] [] (st h 311 0 0) := by
    rw [ce_212, e212_0, if_pos (W_a311 w)]
  have e24 : ∀ h1, V (d + 9) 212 24 [(9, 0), (9, 0), (9, 0), (9, 0), (9, 0)] [] h1 = some ((0, -1), h1) := fun h1 => by rw [e212_24]
  unfold zGallery
  by_cases q0 : x < 0
  · rw [if_pos (Or.inl q0)]; exact ⟨_, by rw [e0, if_pos q0, e24], c0, f0⟩
  by_cases q1 : 100 < x
  · rw [if_pos (Or.inr (Or.inl q1))]; exact ⟨_, by rw [e0, if_neg q0, e212_9, if_pos q1, e24], c0, f0⟩
  by_cases q2 : y < 0
  · rw [if_pos (Or.inr (Or.inr (Or.inl q2)))]; exact ⟨_, by rw [e0, if_neg q0, e212_9, if_neg q1, if_pos q2, e24], c0, f0⟩
  by_cases q3 : 2 < y
  · rw [if_pos (Or.inr (Or.inr (Or.inr q3)))]; exact ⟨_, by rw [e0, if_neg q0, e212_9, if_neg q1, if_neg q2, e212_19, if_pos q3, e24], c0, f0⟩
  rw [if_neg (by omega)]
  obtain ⟨h1, a1, c1, f1, g1⟩ := rk_211 c0 x hd d
  have w1 := c1.k.w
  obtain ⟨B, hB⟩ := gBest_some z.T z.S x
  rw [hB] at g1
  obtain ⟨m, m1, m2, m3, m4, m5⟩ := g1
  refine ⟨h1, ?_, c1, FrM_tr f0 f1⟩
  show _ = some ((0, if y = 0 then ((gBest z.T z.S x).getD (0, 0, 0)).2.1 else if y = 1 then ((gBest z.T z.S x).getD (0, 0, 0)).2.2 else ((gBest z.T z.S x).getD (0, 0, 0)).1), h1)
  rw [hB, e0, if_neg q0, e212_9, if_neg q1, if_neg q2, e212_19, if_neg q3, e212_26, if_pos (F_a311 w0), Cl_eq _ a1]
  show _ = some ((0, if y = 0 then B.2.1 else if y = 1 then B.2.2 else B.1), h1)
  by_cases y0 : y = 0
  · rw [if_pos (by omega), e212_36, if_pos y0, if_pos y0, if_pos (F_a311 w1), m4, e212_51]
  by_cases y1 : y = 1
  · rw [if_pos (by omega), e212_36, if_neg y0, if_neg y0, if_pos y1, e212_47, if_pos (F_a311 w1), m5, e212_51]
  have t2 := c.k.K.2.2.1
  rw [if_neg (by omega), if_neg y0, if_neg y1, e212_52, gal_msk c1 m2 (d + 9) (z.T 2 0).toNat 0 0 (by decide) (by omega) ⟨by decide, by decide⟩, wx_msk _ _ _ _ _ m3]
end GA
