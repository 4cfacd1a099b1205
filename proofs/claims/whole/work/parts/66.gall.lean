/-! layer 2: the gallery is hung -/
def cnd (T S : Wd) (p : Int) : Cn := (p, w32 (imax 0 (imin 999 (sPick T S p))), w32 (tSize T p - S 8 p))
def cands (T S : Wd) : Nat → Int → List Cn
  | 0, _ => []
  | n + 1, k => if sCan T S k (-1) 0 = true then cnd T S k :: cands T S n (k + 1) else cands T S n (k + 1)
def gfr (T : Wd) (e : Int) : Nat → Int → Int → Int
  | 0, _, a => a
  | n + 1, i, a => if i < e then gfr T e n (i + 1) (a + if qHail T i = true then 0 else 1) else a
def gFree (T S : Wd) (days : Int) : Int := gfr T (w32 (S 0 0 + days)) (100 - S 0 0).toNat (S 0 0) 0
def gBest (T S : Wd) (days : Int) : Option Cn := (allS (cands T S (T 2 0).toNat 0) (0, 0, 0)).foldl (btr (gFree T S days)) none
theorem gfr_0 {T : Wd} {e : Int} : ∀ (n : Nat) (i a : Int), 0 ≤ a → 0 ≤ gfr T e n i a
  | 0, _, _, h => h
  | n + 1, i, a, h => by
    unfold gfr
    split
    · exact gfr_0 n _ _ (by split <;> omega)
    · exact h
theorem cands_len {T S : Wd} : ∀ (n : Nat) (k : Int), (cands T S n k).length ≤ n
  | 0, _ => Nat.le_refl _
  | n + 1, k => by
    unfold cands
    have := cands_len (T := T) (S := S) n (k + 1)
    split
    · rw [List.length_cons]; omega
    · omega
theorem cnd_w (T S : Wd) (p : Int) : 0 ≤ (cnd T S p).2.1 ∧ (cnd T S p).2.1 ≤ 999 := by
  show 0 ≤ w32 (imax 0 (imin 999 (sPick T S p))) ∧ w32 (imax 0 (imin 999 (sPick T S p))) ≤ 999
  have : 0 ≤ imax 0 (imin 999 (sPick T S p)) ∧ imax 0 (imin 999 (sPick T S p)) ≤ 999 := by unfold imax imin; split <;> split <;> omega
  unfold w32; omega
theorem cands_w {T S : Wd} : ∀ (n : Nat) (k : Int), ∀ c ∈ cands T S n k, 0 ≤ c.2.1 ∧ c.2.1 ≤ 999
  | 0, _, c, hc => absurd hc List.not_mem_nil
  | n + 1, k, c, hc => by
    unfold cands at hc
    split at hc
    · rcases List.mem_cons.mp hc with q | q
      · rw [q]; exact cnd_w T S k
      · exact cands_w n _ c q
    · exact cands_w n _ c hc
theorem btr_some {free : Int} {o : Option Cn} {A : Cn} (h : o ≠ none) : btr free o A ≠ none := by
  unfold btr
  split
  · exact h
  · cases o with
    | none => exact absurd rfl h
    | some B => dsimp only; split <;> simp
theorem foldl_some {free : Int} : ∀ (l : List Cn) (o : Option Cn), o ≠ none → l.foldl (btr free) o ≠ none
  | [], _, h => h
  | A :: l, o, h => foldl_some l _ (btr_some h)
theorem allS_last : ∀ (l : List Cn) (A : Cn), ∃ r, allS l A = r ++ [A]
  | [], A => ⟨[], rfl⟩
  | c :: cs, A => by
    obtain ⟨r, e⟩ := allS_last cs A
    exact ⟨allS cs (tk c A) ++ r, by show _ ++ _ = _; rw [e, List.append_assoc]⟩
theorem gBest_some (T S : Wd) (days : Int) : ∃ B, gBest T S days = some B := by
  unfold gBest
  obtain ⟨r, e⟩ := allS_last (cands T S (T 2 0).toNat 0) (0, 0, 0)
  rw [e, List.foldl_append]
  have h0 : 0 ≤ gFree T S days := gfr_0 _ _ _ (by decide)
  generalize hf : r.foldl (btr (gFree T S days)) none = o
  show ∃ B, btr (gFree T S days) o (0, 0, 0) = some B
  unfold btr
  rw [if_neg (by show ¬ gFree T S days < 0; omega)]
  cases o with
  | none => exact ⟨_, rfl⟩
  | some B => dsimp only; split <;> exact ⟨_, rfl⟩
theorem FrS_ld {h h' : Hp} (f : FrS h h') {a : Int} (e : scr a = false) (j : Int) : ld h' a j = ld h a j := f.2.2 a j e
section HG
variable {h : Hp} {s b : Int}
theorem kq_116 (c : CK h s b) (k0 : SOK (sV h s b)) (hd : 0 ≤ sV h s b 0 0 ∧ sV h s b 0 0 ≤ 100) {days : Int} (d : Nat) : ∃ h', C (d + 6) 116 [(2, 283), (2, s), (0, days)] h = some ((9, 0), h') ∧ Mx 283 286 s b h h' (sV h s b) ∧ PO h' (gBest (tC h b) (sV h s b) days) := by
  obtain ⟨w, hs, hb, e, hT, -⟩ := id c
  have hN : 0 ≤ ld h b 11 ∧ ld h b 11 ≤ 10 := hT.2.2.1
  have hlen : (cands (tC h b) (sV h s b) (tC h b 2 0).toNat 0).length ≤ 10 := by
    have := cands_len (T := tC h b) (S := sV h s b) (tC h b 2 0).toNat 0
    have : tC h b 2 0 = ld h b 11 := rfl
    omega
  -- the masks
  have p3 : ∀ (free : Int) (n : Nat) (h1 : Hp) (o : Option Cn), Mx 283 286 s b h h1 (sV h s b) → PA h1 (cands (tC h b) (sV h s b) (tC h b 2 0).toNat 0) → PO h1 o → n ≤ 2048 → ∃ h', V (d + 6) 116 161 [(2, 283), (9, 0), (9, 0), (0, free), (0, ((cands (tC h b) (sV h s b) (tC h b 2 0).toNat 0).length : Int)), (0, (n : Int) - 1)] [] h1 = some ((9, 0), h') ∧ Mx 283 286 s b h h' (sV h s b) ∧ PO h' (dn (fun m => wg (cands (tC h b) (sV h s b) (tC h b 2 0).toNat 0) m (0, 0, 0)) free n o) := by
    intro free n
    induction n with
    | zero => intro h1 o m1 pa po _; exact ⟨h1, by rw [e116_161, if_pos (by omega), e116_181], m1, po⟩
    | succ n ih =>
      intro h1 o m1 pa po hn
      obtain ⟨c1, t1, s1⟩ := CK_mx c m1 (by decide) k0
      obtain ⟨w1, -, -, e1, -⟩ := id c1
      obtain ⟨h2, a2, po2, w2, q2, f2⟩ := kq_117 w1 hlen pa (cands_w _ _) n free po (d + 5)
      have m2 : Mx 283 286 s b h1 h2 (sV h1 s b) := by
        have r := st_b hs
        have eb : EqB h1 h2 b := fun i h0 h1 _ _ _ k => f2 _ _ (by rcases bk_b hb with rfl | rfl <;> omega)
        have es : EqS h1 h2 s := fun i h0 h1 k => f2 _ _ (by omega)
        exact ⟨w2, q2, fun x y _ _ e3 => f2 x y (by omega), (EqS_0 es 0).trans e1, sV_eq eb es⟩
      rw [s1] at m2
      obtain ⟨h', a, m, po'⟩ := ih h2 _ (Mx_tr m1 m2) (PA_eq (fun j => ⟨f2 _ _ (by decide), f2 _ _ (by decide), f2 _ _ (by decide)⟩) pa) po2 (by omega)
      refine ⟨h', ?_, m, po'⟩
      rw [e116_161, if_neg (by omega), if_pos (F_a283 w1), show ((n + 1 : Nat) : Int) - 1 = (n : Int) by omega, Cl_eq _ a2, e116_175, show w32 ((n : Int) + -1) = (n : Int) - 1 by unfold w32; omega]
      exact a
  -- the pieces
  have p2 : ∀ (free : Int) (n : Nat) (k : Int) (l : List Cn) (h1 : Hp), Mx 283 286 s b h h1 (sV h s b) → PA h1 l → (l.length : Int) ≤ k → l ++ cands (tC h b) (sV h s b) n k = cands (tC h b) (sV h s b) (tC h b 2 0).toNat 0 → 0 ≤ k → k + n = ld h b 11 → ∃ h', V (d + 6) 116 58 [(2, 283), (2, s), (9, 0), (0, free), (0, (l.length : Int)), (0, k)] [] h1 = some ((9, 0), h') ∧ Mx 283 286 s b h h' (sV h s b) ∧ PO h' ((allS (cands (tC h b) (sV h s b) (tC h b 2 0).toNat 0) (0, 0, 0)).foldl (btr free) none) := by
    intro free n
    induction n with
    | zero =>
      intro k l h1 m1 pa hlk hap hk hn
      obtain ⟨c1, t1, s1⟩ := CK_mx c m1 (by decide) k0
      obtain ⟨w1, -, -, e1, -⟩ := id c1
      have p1 : ld h1 b 11 = ld h b 11 := congrFun (congrFun t1 2) 0
      have hll : l = cands (tC h b) (sV h s b) (tC h b 2 0).toNat 0 := by rw [← hap]; exact (List.append_nil l).symm
      rw [hll] at pa ⊢
      have m2 : Mx 283 286 s b h1 (st h1 283 3 (-1)) (sV h1 s b) := Mx_st c1 (by decide) (by decide) (pnt_n 3 (by decide))
      rw [s1] at m2
      obtain ⟨h', a, m, po⟩ := p3 free (2 ^ (cands (tC h b) (sV h s b) (tC h b 2 0).toNat 0).length) (st h1 283 3 (-1)) none (Mx_tr m1 m2) (PA_eq (fun j => ⟨ld_st_ne (Or.inl (by decide)), ld_st_ne (Or.inl (by decide)), ld_st_ne (Or.inl (by decide))⟩) pa) (ld_st_eq _ _ _ _) (by
        have : 2 ^ (cands (tC h b) (sV h s b) (tC h b 2 0).toNat 0).length ≤ 2 ^ 10 := Nat.pow_le_pow_right (by decide) hlen
        have : (2 : Nat) ^ 10 = 1024 := by decide
        omega)
      rw [dn_all] at po
      refine ⟨h', ?_, m, po⟩
      rw [e116_58, if_pos (sfF0 w1 hs), e1, if_pos (bfF0 w1 hb), if_neg (by omega), e116_148, if_pos (W_a283 w1)]
      have hsh : ∀ q : Nat, q ≤ 10 → w32 (shl32 1 (q : Int) - 1) = ((2 ^ q : Nat) : Int) - 1 := fun q hq => by
        have h11 : q = 0 ∨ q = 1 ∨ q = 2 ∨ q = 3 ∨ q = 4 ∨ q = 5 ∨ q = 6 ∨ q = 7 ∨ q = 8 ∨ q = 9 ∨ q = 10 := by omega
        rcases h11 with rfl | rfl | rfl | rfl | rfl | rfl | rfl | rfl | rfl | rfl | rfl <;> decide
      rw [hsh _ hlen]
      exact a
    | succ n ih =>
      intro k l h1 m1 pa hlk hap hk hn
      obtain ⟨c1, t1, s1⟩ := CK_mx c m1 (by decide) k0
      obtain ⟨w1, -, -, e1, hT1, -⟩ := id c1
      have p1 : ld h1 b 11 = ld h b 11 := congrFun (congrFun t1 2) 0
      have hkp : 0 ≤ k ∧ k < ld h1 b 11 := by omega
      have wk1 : True → w32 (k + 1) = k + 1 := fun _ => wk hk (show k < ld h b 11 by omega) (by omega)
      obtain ⟨h2, a2, f2⟩ := kq_114 c1 d 283 hkp (-1) 0
      rw [t1, s1] at a2
      obtain ⟨c2, t2, s2⟩ := CK_fr c1 f2
      obtain ⟨w2, -, -, e2, hT2, -⟩ := id c2
      have p2 : ld h2 b 11 = ld h1 b 11 := congrFun (congrFun t2 2) 0
      have m2 : Mx 283 286 s b h h2 (sV h s b) := by have := Mx_tr m1 (Mx_of (Md_fr c1 f2)); rw [s1] at this; exact this
      have pa2 : PA h2 l := PA_eq (fun j => ⟨f2.2.2 _ _ (by decide +kernel), f2.2.2 _ _ (by decide +kernel), f2.2.2 _ _ (by decide +kernel)⟩) pa
      rw [e116_58, if_pos (sfF0 w1 hs), e1, if_pos (bfF0 w1 hb), if_pos hkp.2, e116_70, if_pos (F_a283 w1), Cl_eq _ a2]
      simp only [bI_e0]
      rw [show cands (tC h b) (sV h s b) (n + 1) k = (if sCan (tC h b) (sV h s b) k (-1) 0 = true then cnd (tC h b) (sV h s b) k :: cands (tC h b) (sV h s b) n (k + 1) else cands (tC h b) (sV h s b) n (k + 1)) from rfl] at hap
      by_cases hq : sCan (tC h b) (sV h s b) k (-1) 0 = true
      · rw [if_pos hq] at hap
        -- it is put down
        have hl10 : (l.length : Int) < 10 := by omega
        have wl : True → w32 ((l.length : Int) + 1) = (l.length : Int) + 1 := fun _ => wk (Int.natCast_nonneg l.length) hl10 (by decide)
        have m3 : Mx 283 286 s b h2 (st h2 284 (l.length : Int) k) (sV h2 s b) := Mx_st c2 (by decide) (by decide) (npt_A (by decide +kernel) _)
        have k2 : SOK (sV h2 s b) := by rw [s2, s1]; exact k0
        obtain ⟨c3, t3, s3⟩ := CK_mx c2 m3 (by decide) k2
        obtain ⟨w3, -, -, e3, -⟩ := id c3
        have p3' : ld (st h2 284 (l.length : Int) k) b 11 = ld h2 b 11 := congrFun (congrFun t3 2) 0
        have r3 : ∀ a j, a ≠ 284 → ld (st h2 284 (l.length : Int) k) a j = ld h2 a j := fun a j q => ld_st_ne (Or.inl q)
        have v3 : ∀ j, ld (st h2 284 (l.length : Int) k) 284 j = if j = (l.length : Int) then k else ld h2 284 j := fun j => by rw [ld_st]; simp
        obtain ⟨h4, a4, f4⟩ := kq_94 c3 (show 0 ≤ k ∧ k < _ by rw [p3']; omega) (d + 1)
        rw [t3, s3, t2, s2, t1, s1] at a4
        obtain ⟨c4, t4, s4⟩ := CK_fr c3 f4
        obtain ⟨w4, -, -, e4, hT4, -⟩ := id c4
        have k4 : SOK (sV h4 s b) := by rw [s4, s3]; exact k2
        have m5 : Mx 283 286 s b h4 (st h4 285 (l.length : Int) (w32 (imax 0 (imin 999 (sPick (tC h b) (sV h s b) k))))) (sV h4 s b) := Mx_st c4 (by decide) (by decide) (npt_A (by decide +kernel) _)
        obtain ⟨c5, t5, s5⟩ := CK_mx c4 m5 (by decide) k4
        obtain ⟨w5, -, -, e5, hT5, -⟩ := id c5
        have tt5 : tC (st h4 285 (l.length : Int) (w32 (imax 0 (imin 999 (sPick (tC h b) (sV h s b) k))))) b = tC h b := t5.trans (t4.trans (t3.trans (t2.trans t1)))
        have ss5 : sV (st h4 285 (l.length : Int) (w32 (imax 0 (imin 999 (sPick (tC h b) (sV h s b) k))))) s b = sV h s b := s5.trans (s4.trans (s3.trans (s2.trans s1)))
        have r5 : ∀ a j, a ≠ 285 → ld (st h4 285 (l.length : Int) (w32 (imax 0 (imin 999 (sPick (tC h b) (sV h s b) k))))) a j = ld h4 a j := fun a j q => ld_st_ne (Or.inl q)
        have v5 : ∀ j, ld (st h4 285 (l.length : Int) (w32 (imax 0 (imin 999 (sPick (tC h b) (sV h s b) k))))) 285 j = if j = (l.length : Int) then w32 (imax 0 (imin 999 (sPick (tC h b) (sV h s b) k))) else ld h4 285 j := fun j => by rw [ld_st]; simp
        have m6 := Mx_tr m3 (Mx_tr (Mx_of (Md_fr c3 f4)) m5)
        rw [if_neg (by rw [hq]; decide), e116_82, if_pos (F_a283 w2), P283_6 w2, if_pos (W_a284 w2), L_a284 w2, if_pos (by omega), e116_91, if_pos (F_a283 w3), if_pos (sfF0 w3 hs), Cl_eq _ a4, Cl_eq _ (min246 (d + 5) _ _), Cl_eq _ (max244 (d + 5) _ _), P283_7 w3, if_pos (W_a285 w4), L_a285 w4, if_pos (by omega)]
        generalize st h4 285 (l.length : Int) (w32 (imax 0 (imin 999 (sPick (tC h b) (sV h s b) k)))) = h5 at *
        have p5 : ld h5 b 11 = ld h b 11 := congrFun (congrFun tt5 2) 0
        have hkp5 : 0 ≤ k ∧ k < ld h5 b 11 := by omega
        have m7 : Mx 283 286 s b h5 (st h5 286 (l.length : Int) (w32 (tSize (tC h b) k - sV h s b 8 k))) (sV h5 s b) := Mx_st c5 (by decide) (by decide) (npt_A (by decide +kernel) _)
        rw [e116_115, if_pos (F_a283 w5), if_pos (sfF0 w5 hs), e5, if_pos (bfF0 w5 hb), Cl_eq _ (kq_78 w5 hb hT5 (d + 4) hkp5), if_pos (sfF0 w5 hs), sfP8 w5 hs, if_pos (sfF3 w5 hs), sfL3 w5 hs, if_pos ⟨hk, by omega⟩, P283_8 w5, if_pos (W_a286 w5), L_a286 w5, if_pos (by omega), e116_139, e116_142, wk1 trivial, wl trivial, sC_8 (ns := ld h5 b 4) hkp5, show sC h5 s (ld h5 b 4) (ld h5 b 11) = sV h s b from ss5, tt5]
        have hm : Mx 283 286 s b h (st h5 286 (l.length : Int) (w32 (tSize (tC h b) k - sV h s b 8 k))) (sV h s b) := by
          have := Mx_tr m2 (Mx_tr m6 m7); rw [ss5] at this; exact this
        have hpa : PA (st h5 286 (l.length : Int) (w32 (tSize (tC h b) k - sV h s b 8 k))) (l ++ [cnd (tC h b) (sV h s b) k]) := by
          intro i hi
          rw [List.length_append, List.length_singleton] at hi
          by_cases hil : i < l.length
          · obtain ⟨z1, z2, z3⟩ := pa2 i hil
            rw [show (l ++ [cnd (tC h b) (sV h s b) k]).getD i (0, 0, 0) = l.getD i (0, 0, 0) by rw [List.getD_eq_getElem?_getD, List.getD_eq_getElem?_getD, List.getElem?_append_left hil]]
            have ne : ¬ (i : Int) = (l.length : Int) := by omega
            refine ⟨?_, ?_, ?_⟩
            · rw [ld_st_ne (Or.inl (by decide)), r5 _ _ (by decide), FrS_ld f4 (a := 284) (by decide +kernel)]
              show ld (st h2 284 (l.length : Int) k) 284 i = _
              rw [v3, if_neg ne]; exact z1
            · rw [ld_st_ne (Or.inl (by decide)), v5, if_neg ne]
              rw [FrS_ld f4 (a := 285) (by decide +kernel)]
              show ld (st h2 284 (l.length : Int) k) 285 i = _
              rw [r3 _ _ (by decide)]; exact z2
            · rw [ld_st_ne (Or.inr ne), r5 _ _ (by decide)]
              rw [FrS_ld f4 (a := 286) (by decide +kernel)]
              show ld (st h2 284 (l.length : Int) k) 286 i = _
              rw [r3 _ _ (by decide)]; exact z3
          · have hie : i = l.length := by omega
            subst hie
            have hg : (l ++ [cnd (tC h b) (sV h s b) k]).getD l.length (0, 0, 0) = cnd (tC h b) (sV h s b) k := by
              rw [List.getD_eq_getElem?_getD, List.getElem?_append_right (Nat.le_refl _), Nat.sub_self]; rfl
            rw [hg]
            refine ⟨?_, ?_, ld_st_eq _ _ _ _⟩
            · rw [ld_st_ne (Or.inl (by decide)), r5 _ _ (by decide)]
              rw [FrS_ld f4 (a := 284) (by decide +kernel)]
              show ld (st h2 284 (l.length : Int) k) 284 _ = _
              rw [v3, if_pos rfl]; rfl
            · rw [ld_st_ne (Or.inl (by decide)), v5, if_pos rfl]; rfl
        have hl1 : (((l ++ [cnd (tC h b) (sV h s b) k]).length : Nat) : Int) = (l.length : Int) + 1 := by rw [List.length_append, List.length_singleton]; omega
        obtain ⟨h', a, m, po⟩ := ih (k + 1) (l ++ [cnd (tC h b) (sV h s b) k]) _ hm hpa (by omega) (by rw [List.append_assoc]; exact hap) (by omega) (by omega)
        rw [hl1] at a
        exact ⟨h', a, m, po⟩
      · rw [if_neg hq] at hap
        rw [if_pos (Bool.eq_false_iff.mpr hq), e116_142, wk1 trivial]
        exact ih (k + 1) l h2 m2 pa2 (by omega) hap (by omega) (by omega)
  -- the free days
  have p1 : ∀ (n : Nat) (i a : Int), 0 ≤ i → i + n = 100 → 0 ≤ a → a ≤ i → V (d + 6) 116 8 [(2, 283), (2, s), (0, days), (0, a), (0, i), (9, 0)] [] h = V (d + 6) 116 58 [(2, 283), (2, s), (9, 0), (0, gfr (tC h b) (w32 (sV h s b 0 0 + days)) n i a), (0, 0), (0, 0)] [] h := by
    intro n
    induction n with
    | zero =>
      intro i a h0 h1 h2 h3
      rw [e116_8, if_pos (sfF0 w hs), e116_19, if_neg (show ¬ i < 100 by omega), e116_52]
      split <;> rfl
    | succ n ih =>
      intro i a h0 h1 h2 h3
      have wi : True → w32 (i + 1) = i + 1 := fun _ => wk h0 (show i < 100 by omega) (by decide)
      rw [e116_8, if_pos (sfF0 w hs), e116_19, if_pos (show i < 100 by omega), if_pos (sfF0 w hs), e, if_pos (bfF0 w hb), Cl_eq _ (kq_69 w hb (d + 5) i), e116_43, e116_44, e116_44, wi trivial, e116_52]
      simp only [bI_e0]
      unfold gfr
      by_cases q : i < w32 (sV h s b 0 0 + days)
      · rw [if_pos (show i < w32 (ld h s 1 + days) from q), if_pos q]
        cases qHail (tC h b) i with
        | false =>
          rw [if_pos rfl, show w32 (a + 1) = a + 1 by unfold w32; omega]
          exact ih (i + 1) (a + 1) (by omega) (by omega) (by omega) (by omega)
        | true =>
          rw [if_neg (by decide), show w32 (a + 0) = a + 0 by unfold w32; omega]
          exact ih (i + 1) (a + 0) (by omega) (by omega) (by omega) (by omega)
      · rw [if_neg (show ¬ i < w32 (ld h s 1 + days) from q), if_neg q]
  have hd1 : ld h s 1 = sV h s b 0 0 := rfl
  rw [ce_116, e116_0, if_pos (sfF0 w hs), hd1, p1 (100 - sV h s b 0 0).toNat (sV h s b 0 0) 0 hd.1 (by omega) (by decide) hd.1]
  exact p2 _ (ld h b 11).toNat 0 [] h (Mx_of (Md_rf c)) (fun i hi => absurd hi (Nat.not_lt_zero _)) (by decide) rfl (by decide) (by omega)
end HG
