/-! layer 2: a stroke, a death, a first state, a copy -/
theorem hrf_rng {T S : Wd} : ∀ (n : Nat) (x : Int), hrf T S n x = -2 ∨ (0 ≤ hrf T S n x ∧ hrf T S n x < T 1 0)
  | 0, _ => Or.inl rfl
  | n + 1, x => by
    unfold hrf
    split
    · split
      · rename_i q; exact Or.inr (qSit_iff.mp q.1)
      · exact hrf_rng n _
    · exact Or.inl rfl
theorem or32_I (x y : Int) : I32 (or32 x y) := by
  unfold or32 I32
  have h1 := Int32.le_toInt (Int32.ofInt x ||| Int32.ofInt y)
  have h2 := Int32.toInt_lt (Int32.ofInt x ||| Int32.ofInt y)
  omega
theorem I32_of {x : Int} (h : -2 ≤ x ∧ x < 100000) : I32 x := by unfold I32; omega
theorem SOK_stroke {T S : Wd} (k : SOK S) (hT : TOK T) {p : Int} (hp : 0 ≤ p ∧ p < T 2 0) : SOK (sStroke T S p) := by
  have k1 : SOK (up2 S 8 p (w32 (S 8 p + 1))) := SOK_up2 k (w32_I _) (by decide)
  obtain ⟨⟨a1, a2⟩, -⟩ := hT.2.2.2.2.1 p hp.1 hp.2
  have b1 := hT.2.1
  have b2 := hT.2.2.1
  unfold sStroke
  split
  · exact SOK_own k1 (I32_of (by omega)) (I32_of (by omega))
  · exact k1
theorem SOK_die3 {S : Wd} (k : SOK S) {x r i : Int} (hr : I32 r) (hi : I32 i) : SOK (sDie3 x r i S) := by
  unfold sDie3
  split
  · split
    · exact SOK_up2 k (I32_of (by decide)) (by decide)
    · exact SOK_own k hi hr
  · exact k
theorem SOK_fldS {g : Int → Wd → Wd} {N : Int} (hg : ∀ i S, 0 ≤ i → i < N → SOK S → SOK (g i S)) : ∀ (n : Nat) (k : Int) (S : Wd), 0 ≤ k → k + n ≤ N → SOK S → SOK (fldS g n k S)
  | 0, _, _, _, _, h => h
  | n + 1, k, S, h0, h1, h => SOK_fldS hg n (k + 1) (g k S) (by omega) (by omega) (hg k S h0 (by omega) h)
theorem SOK_die1 {S : Wd} (k : SOK S) (x : Int) : SOK (sDie1 S x) := SOK_up1 k (or32_I _ _) (by decide)
theorem SOK_die2 {S : Wd} (k : SOK S) (x r : Int) : SOK (sDie2 S x r) := by
  unfold sDie2
  refine SOK_up2 ?_ (I32_of (by decide)) (by decide)
  split
  · exact SOK_up1 k (w32_I _) (by decide)
  · exact SOK_up2 k (w32_I _) (by decide)
theorem dieR_I {T S : Wd} (hT : TOK T) (x : Int) : I32 (sDieR T S x) := by
  have b1 := hT.2.1
  unfold sDieR sHeir
  rcases hrf_rng (T := T) (S := sDie1 S x) 5 x with q | q
  · rw [q]; exact I32_of (by decide)
  · exact I32_of (by omega)
theorem SOK_die {T S : Wd} (k : SOK S) (hT : TOK T) (x : Int) : SOK (sDie T S x) := by
  have b2 := hT.2.2.1
  exact SOK_fldS (N := 10) (fun i S' h0 h1 k' => SOK_die3 k' (dieR_I hT x) (I32_of (by omega))) _ 0 _ (by decide) (by omega) (SOK_die2 (SOK_die1 k x) x _)
section DI
variable {h : Hp} {s b : Int}
theorem kq_101 (c : CK h s b) (k : SOK (sV h s b)) {p : Int} (hp : 0 ≤ p ∧ p < ld h b 11) (d : Nat) : ∃ h', C (d + 3) 101 [(2, s), (0, p)] h = some ((9, 0), h') ∧ Md s b h h' (sStroke (tC h b) (sV h s b) p) := by
  obtain ⟨w, hs, hb, e, hT, -⟩ := id c
  obtain ⟨⟨q1, q2⟩, -, ⟨q6, q7, q8⟩, -⟩ := pie_b hT hp
  have m1 := Md_u8 c hp (w32 (sV h s b 8 p + 1))
  have k1 : SOK (up2 (sV h s b) 8 p (w32 (sV h s b 8 p + 1))) := SOK_up2 k (w32_I _) (by decide)
  obtain ⟨c1, t1, s1⟩ := CK_md c m1 k1
  rw [ce_101, e101_0]
  simp only [sfF0 w hs, sfW0 w hs, sfF1 w hs, sfW1 w hs, sfL1 w hs, sfF2 w hs, sfW2 w hs, sfL2 w hs, sfF3 w hs, sfW3 w hs, sfL3 w hs, sfF4 w hs, sfW4 w hs, sfL4 w hs, sfF5 w hs, sfW5 w hs, sfL5 w hs, sfF6 w hs, sfW6 w hs, sfL6 w hs, sfF7 w hs, sfW7 w hs, sfL7 w hs, sfP6 w hs, sfP7 w hs, sfP8 w hs, sfP9 w hs, sfP11 w hs, sfP12 w hs, sfP13 w hs, if_true, q1, q2, and_self, sC_8 (ns := ld h b 4) hp]
  rw [e101_10]
  generalize hh1 : st h (s + 3) p (w32 (sV h s b 8 p + 1)) = h1 at *
  obtain ⟨w1, -, -, e1, hT1, -⟩ := id c1
  have p1 : ld h1 b 11 = ld h b 11 := congrFun (congrFun t1 2) 0
  have hp1 : 0 ≤ p ∧ p < ld h1 b 11 := by rw [p1]; exact hp
  rw [if_pos (sfF0 w1 hs), Cl_eq _ (kq_89 w1 hs hb e1 hT1 d hp1), t1, s1]
  simp only [bI_e0]
  unfold sStroke
  cases hq : qDone (tC h b) (up2 (sV h s b) 8 p (w32 (sV h s b 8 p + 1))) p with
  | false => exact ⟨h1, by rw [if_pos rfl, e101_32], by rw [if_neg (by decide)]; exact m1⟩
  | true =>
    obtain ⟨h2, a2, m2⟩ := kq_102 c1 (by rw [s1]; exact k1) hp1 (x := tC h b 12 p) (c.2.2.2.2.2.2.1 12 p) (d + 2)
    refine ⟨h2, ?_, Md_tr m1 (by rw [if_pos rfl, ← s1]; exact m2)⟩
    rw [if_neg (by decide), if_pos (sfF0 w1 hs), e1, if_pos (bfF0 w1 hb), bfP12 w1 hb, if_pos (bfF9 w1 hb), bfL9 w1 hb, if_pos ⟨q1, q2⟩, if_pos (sfF0 w1 hs), tC_12 hp1, t1, Cl_eq _ a2, e101_32]
theorem kq_104 (c : CK h s b) (k : SOK (sV h s b)) {x : Int} (hx : 0 ≤ x ∧ x < ld h b 4) (d : Nat) : ∃ h', C (d + 2) 104 [(2, s), (0, x)] h = some ((0, sDieR (tC h b) (sV h s b) x), h') ∧ Md s b h h' (sDie (tC h b) (sV h s b) x) := by
  obtain ⟨w, hs, hb, e, hT, -⟩ := id c
  have b4 : 0 ≤ ld h b 4 ∧ ld h b 4 ≤ 5 := hT.2.1
  have b11 : 0 ≤ ld h b 11 ∧ ld h b 11 ≤ 10 := hT.2.2.1
  have x5 : x < 5 := by omega
  -- the loop over the pieces
  have key : ∀ (n : Nat) (i r : Int) (h1 : Hp), CK h1 s b → SOK (sV h1 s b) → tC h1 b = tC h b → I32 r → 0 ≤ i → i + n = ld h b 11 → ∃ h', V (d + 2) 104 66 [(2, s), (0, x), (0, r), (0, i)] [] h1 = some ((0, r), h') ∧ Md s b h1 h' (fldS (sDie3 x r) n i (sV h1 s b)) := by
    intro n
    induction n with
    | zero =>
      intro i r h1 c1 k1 t1 hr hi hn
      obtain ⟨w1, -, -, e1, -⟩ := id c1
      have p1 : ld h1 b 11 = ld h b 11 := congrFun (congrFun t1 2) 0
      refine ⟨h1, ?_, Md_rf c1⟩
      rw [e104_66, if_pos (sfF0 w1 hs), e1, if_pos (bfF0 w1 hb), if_neg (by omega), e104_116]
    | succ n ih =>
      intro i r h1 c1 k1 t1 hr hi hn
      obtain ⟨w1, -, -, e1, -⟩ := id c1
      have p1 : ld h1 b 11 = ld h b 11 := congrFun (congrFun t1 2) 0
      have hip : 0 ≤ i ∧ i < ld h1 b 11 := by omega
      rw [e104_66, if_pos (sfF0 w1 hs), e1, if_pos (bfF0 w1 hb), if_pos hip.2, e104_77]
      simp only [sfF0 w1 hs, sfW0 w1 hs, sfF1 w1 hs, sfW1 w1 hs, sfL1 w1 hs, sfF2 w1 hs, sfW2 w1 hs, sfL2 w1 hs, sfF3 w1 hs, sfW3 w1 hs, sfL3 w1 hs, sfF4 w1 hs, sfW4 w1 hs, sfL4 w1 hs, sfF5 w1 hs, sfW5 w1 hs, sfL5 w1 hs, sfF6 w1 hs, sfW6 w1 hs, sfL6 w1 hs, sfF7 w1 hs, sfW7 w1 hs, sfL7 w1 hs, sfP6 w1 hs, sfP7 w1 hs, sfP8 w1 hs, sfP9 w1 hs, sfP11 w1 hs, sfP12 w1 hs, sfP13 w1 hs, if_true, hi, show i < 10 by omega, and_self, sC_9 (ns := ld h1 b 4) hip, e104_110, wk hi (show i < ld h b 11 by omega) (by omega)]
      show ∃ h', _ ∧ Md s b h1 h' (fldS (sDie3 x r) n (i + 1) (sDie3 x r i (sV h1 s b)))
      have kk : SOK (sDie3 x r i (sV h1 s b)) := SOK_die3 k1 hr (I32_of (by omega))
      have fin : ∀ h2, Md s b h1 h2 (sDie3 x r i (sV h1 s b)) → ∃ h', V (d + 2) 104 66 [(2, s), (0, x), (0, r), (0, i + 1)] [] h2 = some ((0, r), h') ∧ Md s b h1 h' (fldS (sDie3 x r) n (i + 1) (sDie3 x r i (sV h1 s b))) := fun h2 m2 => by
        obtain ⟨c2, t2, s2⟩ := CK_md c1 m2 kk
        obtain ⟨h', a, m⟩ := ih (i + 1) r h2 c2 (by rw [s2]; exact kk) (t2.trans t1) hr (by omega) (by omega)
        exact ⟨h', a, Md_tr m2 (by rw [← s2]; exact m)⟩
      by_cases hq : sC h1 s (ld h1 b 4) (ld h1 b 11) 9 i = x
      · rw [if_pos hq, e104_87]
        by_cases hr2 : r = -2
        · have m2 := Md_u9 c1 hip (-2)
          rw [if_pos hr2, if_pos (sfF0 w1 hs), sfP9 w1 hs, if_pos (sfW4 w1 hs), sfL4 w1 hs, if_pos ⟨hi, by omega⟩, e104_101, e104_110, wk hi (show i < ld h b 11 by omega) (by omega)]
          exact fin _ (by unfold sDie3; rw [if_pos hq, if_pos hr2]; exact m2)
        · obtain ⟨h2, a2, m2⟩ := kq_102 c1 k1 hip hr (d + 1)
          rw [if_neg hr2, e104_104, if_pos (sfF0 w1 hs), Cl_eq _ a2, e104_110, wk hi (show i < ld h b 11 by omega) (by omega)]
          exact fin _ (by unfold sDie3; rw [if_pos hq, if_neg hr2]; exact m2)
      · rw [if_neg hq]
        exact fin h1 (by unfold sDie3; rw [if_neg hq]; exact Md_rf c1)
  -- the purse goes on
  have m1 := Md_u2 c (or32 (ld h s 3) (shl32 1 x))
  have k1 : SOK (sDie1 (sV h s b) x) := SOK_die1 k x
  have m1 : Md s b h (st h s 3 (or32 (ld h s 3) (shl32 1 x))) (sDie1 (sV h s b) x) := m1
  obtain ⟨c1, t1, s1⟩ := CK_md c m1 k1
  rw [ce_104, e104_0, if_pos (sfF0 w hs), if_pos (sfW0 w hs), e104_12]
  generalize hh1 : st h s 3 (or32 (ld h s 3) (shl32 1 x)) = h1 at *
  obtain ⟨w1, -, -, e1, hT1, -⟩ := id c1
  have n1 : ld h1 b 4 = ld h b 4 := congrFun (congrFun t1 1) 0
  have hx1 : 0 ≤ x ∧ x < ld h1 b 4 := by rw [n1]; exact hx
  rw [if_pos (sfF0 w1 hs), Cl_eq _ (kq_105 c1 d x), t1, s1, show sHeir (tC h b) (sDie1 (sV h s b) x) x = sDieR (tC h b) (sV h s b) x from rfl]
  have hr : I32 (sDieR (tC h b) (sV h s b) x) := dieR_I hT x
  have hrr : sDieR (tC h b) (sV h s b) x = -2 ∨ (0 ≤ sDieR (tC h b) (sV h s b) x ∧ sDieR (tC h b) (sV h s b) x < ld h b 4) := hrf_rng 5 x
  have hdie : sDie (tC h b) (sV h s b) x = fldS (sDie3 x (sDieR (tC h b) (sV h s b) x)) (ld h b 11).toNat 0 (sDie2 (sDie1 (sV h s b) x) x (sDieR (tC h b) (sV h s b) x)) := rfl
  rw [hdie]
  generalize sDieR (tC h b) (sV h s b) x = r at *
  have k2 : SOK (sDie2 (sDie1 (sV h s b) x) x r) := SOK_die2 k1 x r
  have fin : ∀ h2 S2, CK h2 s b → tC h2 b = tC h b → Md s b h h2 S2 → SOK S2 → sDie2 (sDie1 (sV h s b) x) x r = up2 S2 6 x 0 → ∃ h', V (d + 2) 104 57 [(2, s), (0, x), (0, r), (9, 0)] [] h2 = some ((0, r), h') ∧ Md s b h h' (fldS (sDie3 x r) (ld h b 11).toNat 0 (sDie2 (sDie1 (sV h s b) x) x r)) := fun h2 S2 c2 t2 m2 kS e2 => by
    obtain ⟨w2, -, -, -, -⟩ := id c2
    have n2 : ld h2 b 4 = ld h b 4 := congrFun (congrFun t2 1) 0
    have m3 := Md_u6 c2 (by rw [n2]; exact hx) 0
    have k3 : SOK (up2 (sV h2 s b) 6 x 0) := by rw [m2.2.2.2.2, ← e2]; exact k2
    obtain ⟨c3, t3, s3⟩ := CK_md c2 m3 k3
    obtain ⟨h', a, m⟩ := key (ld h b 11).toNat 0 r _ c3 (by rw [s3]; exact k3) (t3.trans t2) hr (by decide) (by omega)
    refine ⟨h', ?_, Md_tr m2 (Md_tr m3 ?_)⟩
    · rw [e104_57, if_pos (sfF0 w2 hs), sfP6 w2 hs, if_pos (sfW1 w2 hs), sfL1 w2 hs, if_pos ⟨hx.1, x5⟩, e104_64]; exact a
    · rw [s3, m2.2.2.2.2, ← e2] at m; exact m
  by_cases q : r = -2
  · have m2 := Md_u1 c1 (w32 (sV h1 s b 1 0 + sV h1 s b 6 x))
    have k2' : SOK (up1 (sV h1 s b) 1 (w32 (sV h1 s b 1 0 + sV h1 s b 6 x))) := SOK_up1 (by rw [s1]; exact k1) (w32_I _) (by decide)
    obtain ⟨c2, t2, s2⟩ := CK_md c1 m2 k2'
    rw [if_pos q, e104_24, if_pos (sfF0 w1 hs), if_pos (sfF0 w1 hs), sfP6 w1 hs, if_pos (sfF1 w1 hs), sfL1 w1 hs, if_pos ⟨hx.1, x5⟩, if_pos (sfW0 w1 hs), sC_6 (np := ld h1 b 11) hx1, e104_39]
    exact fin _ _ c2 (t2.trans t1) (Md_tr m1 m2) k2' (by rw [s1]; unfold sDie2; rw [if_pos q])
  · have hr0 : 0 ≤ r ∧ r < ld h1 b 4 := by rw [n1]; exact hrr.resolve_left q
    have m2 := Md_u6 c1 hr0 (w32 (sV h1 s b 6 r + sV h1 s b 6 x))
    have k2' : SOK (up2 (sV h1 s b) 6 r (w32 (sV h1 s b 6 r + sV h1 s b 6 x))) := SOK_up2 (by rw [s1]; exact k1) (w32_I _) (by decide)
    obtain ⟨c2, t2, s2⟩ := CK_md c1 m2 k2'
    rw [if_neg q, e104_42]
    simp only [sfF0 w1 hs, sfW0 w1 hs, sfF1 w1 hs, sfW1 w1 hs, sfL1 w1 hs, sfF2 w1 hs, sfW2 w1 hs, sfL2 w1 hs, sfF3 w1 hs, sfW3 w1 hs, sfL3 w1 hs, sfF4 w1 hs, sfW4 w1 hs, sfL4 w1 hs, sfF5 w1 hs, sfW5 w1 hs, sfL5 w1 hs, sfF6 w1 hs, sfW6 w1 hs, sfL6 w1 hs, sfF7 w1 hs, sfW7 w1 hs, sfL7 w1 hs, sfP6 w1 hs, sfP7 w1 hs, sfP8 w1 hs, sfP9 w1 hs, sfP11 w1 hs, sfP12 w1 hs, sfP13 w1 hs, if_true, hr0.1, show r < 5 by omega, hx.1, x5, and_self, sC_6 (np := ld h1 b 11) hx1, sC_6 (np := ld h1 b 11) hr0]
    exact fin _ _ c2 (t2.trans t1) (Md_tr m1 m2) k2' (by rw [s1]; unfold sDie2; rw [if_neg q])
end DI
