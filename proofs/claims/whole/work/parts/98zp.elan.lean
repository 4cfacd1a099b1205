/-! layer 2: an E: the class's waiting signs beside the plain program's descent -/
section EP
variable {tp : Int → Int} {n pl : Int} {k : Nat} {tw hl : Int}
theorem adv_gt (h : pl < n) : pl < adv tp n pl ∧ adv tp n pl ≤ n := by
  have e : pl + 1 ≤ (lTok tp n pl).2 ∧ (lTok tp n pl).2 ≤ n := by
    unfold lTok
    rw [if_neg (fun u => u h)]
    cases q : clo (tp pl) with
    | true => rw [if_pos rfl]; exact lxE_1 h q
    | false =>
      rw [if_neg (by decide)]
      cases q2 : cdg (tp pl) with
      | true => rw [if_pos rfl]; exact lxE_1 h q2
      | false =>
        rw [if_neg (by decide)]
        show pl + 1 ≤ pl + 1 + lx2 _ _ ∧ pl + 1 + lx2 _ _ ≤ n
        by_cases y : pl + 1 < n
        · have : lx2 (tp pl) (lxX tp n (pl + 1)) = 0 ∨ lx2 (tp pl) (lxX tp n (pl + 1)) = 1 := by
            unfold lx2; split
            · exact Or.inr rfl
            · exact Or.inl rfl
          omega
        · have e : lxX tp n (pl + 1) = -1 := by unfold lxX; rw [if_neg y]
          have : lx2 (tp pl) (-1) = 0 := by unfold lx2; rw [if_neg (by omega)]
          rw [e, this]; omega
  unfold adv lxP
  have := lxr_b cws tp (n - (lTok tp n pl).2).toNat (lTok tp n pl).2
  omega
theorem tk_lt (h : ¬ tkn tp n pl = -1) : pl < n := by
  have := (tkn_c tp n pl).2.2.2.1
  by_cases y : pl < n
  · exact y
  · exact absurd (this.mpr y) h
def tF (T0 : Wd) (k : Nat) (L : List (Int × Int)) : Wd := L.foldl (fun T x => tPut T k x.1 x.2) T0
theorem tF_put (T0 : Wd) (L : List (Int × Int)) (t v : Int) : tPut (tF T0 k L) k t v = tF T0 k (L ++ [(t, v)]) := by
  unfold tF; rw [List.foldl_append]; rfl
/-- how many values wait behind knots -/
def dp : List (Int × Int) → Nat → Option Nat
  | [], m => some m
  | x :: r, m => if ksort x.1 = 0 ∨ ksort x.1 = 1 then dp r (m + 1) else if kval x.1 x.2 = 260 then (if 1 ≤ m then dp r m else none) else (if 2 ≤ m then dp r (m - 1) else none)
theorem dp_app : ∀ (A B : List (Int × Int)) (m j : Nat), dp A m = some j → dp (A ++ B) m = dp B j
  | [], B, m, j, e => by rw [Option.some.inj e]; rfl
  | x :: A, B, m, j, e => by
    unfold dp at e
    show (if ksort x.1 = 0 ∨ ksort x.1 = 1 then dp (A ++ B) (m + 1) else if kval x.1 x.2 = 260 then (if 1 ≤ m then dp (A ++ B) m else none) else (if 2 ≤ m then dp (A ++ B) (m - 1) else none)) = _
    split at e
    · rename_i u; rw [if_pos u]; exact dp_app A B _ j e
    · rename_i u
      rw [if_neg u]
      split at e
      · rename_i v
        rw [if_pos v]
        split at e
        · rename_i y; rw [if_pos y]; exact dp_app A B _ j e
        · cases e
      · rename_i v
        rw [if_neg v]
        split at e
        · rename_i y; rw [if_pos y]; exact dp_app A B _ j e
        · cases e
/-- an E more -/
def XE (L0 L : List (Int × Int)) : Prop := ∃ M, L = L0 ++ M ∧ ∀ j, dp M j = some (j + 1)
theorem XE_1 (L : List (Int × Int)) {t : Int} (ht : ¬ (-20 ≤ t ∧ t ≤ -8)) (x : Int) : XE L (L ++ [(t, x)]) := by
  refine ⟨[(t, x)], rfl, fun j => ?_⟩
  show (if ksort t = 0 ∨ ksort t = 1 then some (j + 1) else _) = _
  rw [if_pos (by unfold ksort; rw [if_neg ht]; split <;> simp)]
theorem kb_tb : (List.range 38).all (fun o => decide (7 ≤ o ∧ o ≤ 18 → ¬ tokOp o = 260)) = true := by decide +kernel
theorem XE_2 {L0 L L' : List (Int × Int)} (a : XE L0 L) (b : XE L L') {t : Int} (ht : -19 ≤ t ∧ t ≤ -8) (x : Int) : XE L0 (L' ++ [(t, x)]) := by
  obtain ⟨A, ea, ha⟩ := a
  obtain ⟨B, eb, hb⟩ := b
  refine ⟨A ++ (B ++ [(t, x)]), by rw [eb, ea, List.append_assoc, List.append_assoc], fun j => ?_⟩
  rw [dp_app A _ j _ (ha j), dp_app B _ _ _ (hb (j + 1))]
  have k2 : ksort t = 2 := by unfold ksort; rw [if_pos (by omega)]
  have kv : ¬ kval t x = 260 := by
    unfold kval
    rw [if_pos (by omega)]
    exact of_decide_eq_true (List.all_eq_true.mp kb_tb (-1 - t).toNat (List.mem_range.mpr (by omega))) (by omega)
  show (if ksort t = 0 ∨ ksort t = 1 then _ else if kval t x = 260 then _ else if 2 ≤ j + 1 + 1 then dp [] (j + 1 + 1 - 1) else none) = _
  rw [if_neg (by omega), if_neg kv, if_pos (by omega)]
  rfl
theorem XE_n {L L' : List (Int × Int)} (b : XE L L') (x : Int) : XE L (L' ++ [(-20, x)]) := by
  obtain ⟨B, eb, hb⟩ := b
  refine ⟨B ++ [(-20, x)], by rw [eb, List.append_assoc], fun j => ?_⟩
  rw [dp_app B _ _ _ (hb j)]
  show (if ksort (-20) = 0 ∨ ksort (-20) = 1 then _ else if kval (-20) x = 260 then (if 1 ≤ j + 1 then dp [] (j + 1) else none) else _) = _
  rw [if_neg (by decide), if_pos (show kval (-20) x = 260 from rfl), if_pos (by omega)]
  rfl
/-- down to which strength a token makes the waiting ones go -/
def rth (u : Int) : Int := if tlev u = 0 ∨ u = -20 then 1 else if tlev u = 4 then 5 else tlev u
theorem rls_c {lv t : Int} (W : List Int) (T : Wd) (h : lv ≤ tlev t) : rls k lv (t :: W) T = rls k lv W (tPut T k t 0) := by
  show (if tlev t < lv then _ else _) = _
  rw [if_neg (by omega)]
theorem rls_s {lv : Int} {W : List Int} (T : Wd) (h : lev W < lv) : rls k lv W T = (T, W) := by
  cases W with
  | nil => rfl
  | cons t W =>
    show (if tlev t < lv then _ else _) = _
    rw [if_pos (show tlev t < lv from h)]
theorem clL_rel {t : Int} {T : Wd} {W : List Int} {op kn : Int} (hr : rth (tkn tp n pl) ≤ tlev t) (h1 : 1 ≤ tlev t) (m : Nat) : clL tp n k tw hl m false T (t :: W) op kn pl = clL tp n k tw hl m false (tPut T k t 0) W op kn pl := by
  cases m with
  | zero => rfl
  | succ m =>
    unfold clL
    rw [if_neg (show ¬ false = true by decide), if_neg (show ¬ false = true by decide)]
    by_cases q : ¬ tlev (tkn tp n pl) = 0 ∧ ¬ tkn tp n pl = -20
    · rw [if_pos q, if_pos q]
      have e : clOpr tp n k T (t :: W) op kn pl = clOpr tp n k (tPut T k t 0) W op kn pl := by
        unfold rth at hr
        rw [if_neg (by omega)] at hr
        unfold clOpr
        dsimp only
        rw [rls_c W T hr]
      rw [e]
    · rw [if_neg q, if_neg q, rls_c W T h1]
theorem lv_tb : (List.range 38).all (fun o => decide ((tlev (-1 - (o : Int)) = 4 ↔ 7 ≤ o ∧ o ≤ 12) ∧ (tlev (-1 - (o : Int)) = 5 ↔ o = 13 ∨ o = 14) ∧ (tlev (-1 - (o : Int)) = 6 ↔ o = 15 ∨ o = 16) ∧ (tlev (-1 - (o : Int)) = 1 ↔ o = 17) ∧ (tlev (-1 - (o : Int)) = 2 ↔ o = 18) ∧ (tlev (-1 - (o : Int)) = 3 ↔ o = 19) ∧ 0 ≤ tlev (-1 - (o : Int)) ∧ tlev (-1 - (o : Int)) ≤ 6 ∧ (7 ≤ o ∧ o ≤ 16 → svt (-1 - (o : Int)) = kval (-1 - (o : Int)) 0) ∧ (17 ≤ o → (rwi (o : Int) = 11 ↔ o = 17) ∧ (rwi (o : Int) = 12 ↔ o = 18) ∧ (rwi (o : Int) = 13 ↔ o = 19) ∧ (14 ≤ rwi (o : Int) ↔ 31 ≤ o)) ∧ (31 ≤ o → rwi (o : Int) - 14 = (o : Int) - 31) ∧ (tkf2 (-1 - (o : Int)) = -1 ↔ o < 31))) = true := by decide +kernel
theorem lvt {t : Int} (ht : -38 ≤ t ∧ t ≤ -1) : (tlev t = 4 ↔ -13 ≤ t ∧ t ≤ -8) ∧ (tlev t = 5 ↔ t = -14 ∨ t = -15) ∧ (tlev t = 6 ↔ t = -16 ∨ t = -17) ∧ (tlev t = 1 ↔ t = -18) ∧ (tlev t = 2 ↔ t = -19) ∧ (tlev t = 3 ↔ t = -20) ∧ (0 ≤ tlev t ∧ tlev t ≤ 6) ∧ (-17 ≤ t ∧ t ≤ -8 → svt t = kval t 0) ∧ (t ≤ -18 → (rwi (-1 - t) = 11 ↔ t = -18) ∧ (rwi (-1 - t) = 12 ↔ t = -19) ∧ (rwi (-1 - t) = 13 ↔ t = -20) ∧ (14 ≤ rwi (-1 - t) ↔ t ≤ -32)) ∧ (t ≤ -32 → rwi (-1 - t) - 14 = -32 - t) ∧ (tkf2 t = -1 ↔ -32 < t) := by
  have := of_decide_eq_true (List.all_eq_true.mp lv_tb (-1 - t).toNat (List.mem_range.mpr (by omega)))
  rw [show (((-1 - t).toNat : Nat) : Int) = -1 - t by omega, show -1 - (-1 - t) = t by omega] at this
  obtain ⟨a1, a2, a3, a4, a5, a6, a7, a8, a9, a10, a11, a12⟩ := this
  refine ⟨by rw [a1]; omega, by rw [a2]; omega, by rw [a3]; omega, by rw [a4]; omega, by rw [a5]; omega, by rw [a6]; omega, ⟨a7, a8⟩, fun h => a9 (by omega), fun h => ?_, fun h => by rw [a11 (by omega)]; omega, by rw [a12]; omega⟩
  obtain ⟨b1, b2, b3, b4⟩ := a10 (by omega)
  exact ⟨by rw [b1]; omega, by rw [b2]; omega, by rw [b3]; omega, by rw [b4]; omega⟩
theorem ks2 {t : Int} (ht : -20 ≤ t ∧ t ≤ -8) : ksort t = 2 := by unfold ksort; rw [if_pos ht]
end EP
section EH
variable {h h' h0 : Hp} {tp : Int → Int} {n pl c0 : Int} {L : List (Int × Int)} {kn op : Int}
/-- what an E leaves as it was -/
def FE (c0 a j : Int) : Prop := ¬ (a = 311 ∧ ((26 ≤ j ∧ j ≤ 31) ∨ j = 34 ∨ j = 35)) ∧ ¬ (a = 313 ∧ j = 13) ∧ ¬ ((a = 331 ∨ a = 332) ∧ 64 + c0 ≤ j)
def FrE (h0 : Hp) (c0 : Int) (h' : Hp) : Prop := WF h' ∧ h'.2 = h0.2 ∧ ∀ a j : Int, FE c0 a j → ld h' a j = ld h0 a j
def PE (h0 : Hp) (c0 : Int) (h : Hp) (tp : Int → Int) (n pl : Int) (L : List (Int × Int)) (kn op : Int) : Prop :=
  PP h tp n pl ∧ FrE h0 c0 h ∧ ld h 311 35 = kn ∧ ld h 311 34 = op ∧ ld h 313 13 = c0 + (L.length : Int) ∧ ∀ i : Nat, i < L.length → ld h 331 (64 + c0 + (i : Int)) = ksort (L.getD i (0, 0)).1 ∧ ld h 332 (64 + c0 + (i : Int)) = kval (L.getD i (0, 0)).1 (L.getD i (0, 0)).2 ∧ I32 (L.getD i (0, 0)).2
theorem FrE_flt (f : FrE h0 c0 h) (x p : Int) : FrE h0 c0 (flt h x p) := ⟨flt_w f.1 x p, f.2.1, fun a j e => by
  unfold FE at e
  rw [← f.2.2 a j e]
  exact (ld_st_ne (by omega)).trans (ld_st_ne (by omega))⟩
theorem PE_adv (p : PE h0 c0 h tp n pl L kn op) (d : Nat) : ∃ h', C (d + 5) 141 [(2, 311)] h = some ((9, 0), h') ∧ PE h0 c0 h' tp n (adv tp n pl) L kn op := by
  obtain ⟨p1, p2, p3, p4, p5, p6⟩ := p
  obtain ⟨h', a, f, q⟩ := PP_adv p1 d
  refine ⟨h', a, q, ⟨f.1, f.2.1.trans p2.2.1, fun a j e => (f.2.2 a j (by unfold FE at e; omega)).trans (p2.2.2 a j e)⟩, (f.2.2 311 35 (by omega)).trans p3, (f.2.2 311 34 (by omega)).trans p4, (f.2.2 313 13 (by omega)).trans p5, fun i hi => ?_⟩
  rw [f.2.2 331 _ (by omega), f.2.2 332 _ (by omega)]
  exact p6 i hi
theorem PE_148 (p : PE h0 c0 h tp n pl L kn op) (d : Nat) : ∃ h', C (d + 6) 148 [(2, 311)] h = some ((9, 0), h') ∧ PE h0 c0 h' tp n (adv tp n pl) L kn op := by
  obtain ⟨h', a1, p1⟩ := PE_adv p d
  have w := p.1.1.1
  exact ⟨h', by rw [ce_148, e148_0, if_pos (F_a311 w), p.1.2.2.2.1, if_pos rfl, if_pos (F_a311 w), Cl_eq _ a1, e148_11], p1⟩
theorem PP_35 (p : PP h tp n pl) {j v : Int} (hj : j = 34 ∨ j = 35) : PP (st h 311 j v) tp n pl := by
  have w' : WF (st h 311 j v) := wf_st p.1.1 (npt_J (by rcases hj with rfl | rfl <;> decide +kernel))
  obtain ⟨⟨-, c2, c3, c4, c5, c6⟩, p2, p3, p4, p5⟩ := p
  have g : ∀ j', ¬ (j' = 34 ∨ j' = 35) → ld (st h 311 j v) 311 j' = ld h 311 j' := fun j' u => ld_st_ne (Or.inr (by omega))
  exact ⟨⟨w', fun j' j0 j1 => by rw [ld_st_ne (Or.inl (by decide))]; exact c2 j' j0 j1, (g 25 (by decide)).trans c3, c4, (g 26 (by decide)).trans c5, c6⟩, (g 27 (by decide)).trans p2, by rw [g 28 (by decide), g 29 (by decide)]; exact p3, (g 30 (by decide)).trans p4, (g 31 (by decide)).trans p5⟩
theorem PE_34 (p : PE h0 c0 h tp n pl L kn op) (v : Int) : PE h0 c0 (st h 311 34 v) tp n pl L kn v := by
  obtain ⟨p1, p2, p3, p4, p5, p6⟩ := p
  have q := PP_35 p1 (j := 34) (v := v) (Or.inl rfl)
  refine ⟨q, ⟨q.1.1, p2.2.1, fun a j e => (ld_st_ne (by unfold FE at e; omega)).trans (p2.2.2 a j e)⟩, (ld_st_ne (Or.inr (by decide))).trans p3, ld_st_eq _ _ _ _, (ld_st_ne (Or.inl (by decide))).trans p5, fun i hi => ?_⟩
  rw [ld_st_ne (Or.inl (by decide)), ld_st_ne (Or.inl (by decide))]
  exact p6 i hi
/-- a knot is counted, or a fault -/
theorem PE_166 (p : PE h0 c0 h tp n pl L kn op) (hk : 0 ≤ kn ∧ kn ≤ 64) (d : Nat) : (kn < 64 → C (d + 1) 166 [(2, 311)] h = some ((9, 0), st h 311 35 (kn + 1)) ∧ PE h0 c0 (st h 311 35 (kn + 1)) tp n pl L (kn + 1) op) ∧ (¬ kn < 64 → C (d + 1) 166 [(2, 311)] h = some ((9, 0), flt h 2 pl)) := by
  have w := p.1.1.1
  refine ⟨fun q => ⟨?_, ?_⟩, fun q => ?_⟩
  · rw [ce_166, e166_0, if_pos (F_a311 w), p.1.2.2.2.1, if_pos rfl, e166_8, if_pos (F_a311 w), p.2.2.1, if_neg (by omega), e166_25, if_pos (F_a311 w), if_pos (W_a311 w), p.2.2.1, show w32 (kn + 1) = kn + 1 by unfold w32; omega, e166_35]
  · obtain ⟨p1, p2, p3, p4, p5, p6⟩ := p
    have q := PP_35 p1 (j := 35) (v := kn + 1) (Or.inr rfl)
    refine ⟨q, ⟨q.1.1, p2.2.1, fun a j e => (ld_st_ne (by unfold FE at e; omega)).trans (p2.2.2 a j e)⟩, ld_st_eq _ _ _ _, (ld_st_ne (Or.inr (by decide))).trans p4, (ld_st_ne (Or.inl (by decide))).trans p5, fun i hi => ?_⟩
    rw [ld_st_ne (Or.inl (by decide)), ld_st_ne (Or.inl (by decide))]
    exact p6 i hi
  · rw [ce_166, e166_0, if_pos (F_a311 w), p.1.2.2.2.1, if_pos rfl, e166_8, if_pos (F_a311 w), p.2.2.1, if_pos (by omega), if_pos (F_a311 w), Cl_eq _ (rk_145p p.1 2 d), e166_22, e166_35]
/-- a knot is put down -/
theorem PE_165 (p : PE h0 c0 h tp n pl L kn op) (hc : 0 ≤ c0 ∧ c0 + (L.length : Int) < 64) {s v t x : Int} (hs : ksort t = s) (hv : kval t x = v) (hxI : I32 x) (d : Nat) : ∃ h', C (d + 1) 165 [(2, 311), (0, s), (0, v)] h = some ((9, 0), h') ∧ PE h0 c0 h' tp n pl (L ++ [(t, x)]) kn op := by
  have w := p.1.1.1
  have r1 := rk_155 w (x := 6) (by decide) d
  rw [show (7 : Int) + 6 = 13 by decide, p.2.2.2.2.1] at r1
  have ws : w32 (64 + (c0 + (L.length : Int))) = 64 + c0 + (L.length : Int) := by unfold w32; omega
  have wA : WF (st h 331 (64 + c0 + (L.length : Int)) s) := wf_st w (npt_A (by decide +kernel) _)
  have r2 := rk_155 wA (x := 6) (by decide) d
  rw [show (7 : Int) + 6 = 13 by decide, ld_st_ne (Or.inl (by decide)), p.2.2.2.2.1] at r2
  have wB : WF (st (st h 331 (64 + c0 + (L.length : Int)) s) 332 (64 + c0 + (L.length : Int)) v) := wf_st wA (npt_A (by decide +kernel) _)
  have r3 := rk_156 wB (x := 6) (by decide) d
  rw [show (7 : Int) + 6 = 13 by decide, ld_st_ne (Or.inl (by decide)), ld_st_ne (Or.inl (by decide)), p.2.2.2.2.1, show w32 (c0 + (L.length : Int) + 1) = c0 + (L.length : Int) + 1 by unfold w32; omega] at r3
  have wC : WF (st (st (st h 331 (64 + c0 + (L.length : Int)) s) 332 (64 + c0 + (L.length : Int)) v) 313 13 (c0 + (L.length : Int) + 1)) := wf_st wB (n313 _)
  refine ⟨st (st (st h 331 (64 + c0 + (L.length : Int)) s) 332 (64 + c0 + (L.length : Int)) v) 313 13 (c0 + (L.length : Int) + 1), ?_, ?_⟩
  · rw [ce_165, e165_0, if_pos (F_a311 w), p.1.2.2.2.1, if_pos rfl, e165_8, if_pos (F_a311 w), if_pos (F_a311 w), Cl_eq _ r1, P_311_21 w, ws, if_pos (W_a331 w), L_a331 w, if_pos (by omega), e165_23, if_pos (F_a311 wA), if_pos (F_a311 wA), Cl_eq _ r2, P_311_22 wA, ws, if_pos (W_a332 wA), L_a332 wA, if_pos (by omega), e165_38, if_pos (F_a311 wB), Cl_eq _ r3]
  · obtain ⟨p1, p2, p3, p4, p5, p6⟩ := p
    have g : ∀ a j, ¬ ((a = 331 ∨ a = 332) ∧ j = 64 + c0 + (L.length : Int)) → ¬ (a = 313 ∧ j = 13) → ld (st (st (st h 331 (64 + c0 + (L.length : Int)) s) 332 (64 + c0 + (L.length : Int)) v) 313 13 (c0 + (L.length : Int) + 1)) a j = ld h a j := fun a j e1 e2 => by
      rw [ld_st_ne (by omega), ld_st_ne (by omega), ld_st_ne (by omega)]
    have q := PP_st (PP_st (PP_st p1 wA (by decide)) wB (by decide)) wC (by decide)
    refine ⟨q, ⟨wC, p2.2.1, fun a j e => (g a j (by unfold FE at e; omega) e.2.1).trans (p2.2.2 a j e)⟩, (g 311 35 (by omega) (by omega)).trans p3, (g 311 34 (by omega) (by omega)).trans p4, ?_, fun i hi => ?_⟩
    · rw [ld_st_eq, List.length_append]
      show c0 + (L.length : Int) + 1 = c0 + ((L.length + 1 : Nat) : Int)
      omega
    · rw [List.length_append] at hi
      have hi : i < L.length + 1 := hi
      by_cases y : i < L.length
      · have e : (L ++ [(t, x)]).getD i (0, 0) = L.getD i (0, 0) := by
          rw [List.getD_eq_getElem?_getD, List.getD_eq_getElem?_getD, List.getElem?_append_left y]
        rw [e, g 331 _ (by omega) (by omega), g 332 _ (by omega) (by omega)]
        exact p6 i y
      · have hy : i = L.length := by omega
        have e : (L ++ [(t, x)]).getD i (0, 0) = (t, x) := by
          rw [hy, List.getD_eq_getElem?_getD, List.getElem?_append_right (Nat.le_refl _), Nat.sub_self]; rfl
        rw [e, hy]
        refine ⟨?_, ?_, hxI⟩
        · rw [ld_st_ne (Or.inl (by decide)), ld_st_ne (Or.inl (by decide)), ld_st_eq]; exact hs.symm
        · rw [ld_st_ne (Or.inl (by decide)), ld_st_eq]; exact hv.symm
/-! behind a fault nothing more is done -/
section FT
theorem rk_165f (w : WF h) (q : ¬ ld h 311 30 = 0) (s v : Int) (d : Nat) : C d 165 [(2, 311), (0, s), (0, v)] h = some ((9, 0), h) := by
  rw [ce_165, e165_0, if_pos (F_a311 w), if_neg q]
theorem rk_166f (w : WF h) (q : ¬ ld h 311 30 = 0) (d : Nat) : C d 166 [(2, 311)] h = some ((9, 0), h) := by
  rw [ce_166, e166_0, if_pos (F_a311 w), if_neg q]
theorem rk_146f (w : WF h) (q : ¬ ld h 311 30 = 0) (x : Int) (d : Nat) : C d 146 [(2, 311), (0, x)] h = some ((0, 0), h) := by
  rw [rk_146 w, decide_eq_false q, Bool.false_and]; rfl
theorem rk_147f (w : WF h) (q : ¬ ld h 311 30 = 0) (x : Int) (d : Nat) : C d 147 [(2, 311), (0, x)] h = some ((0, 0), h) := by
  rw [rk_147 w, decide_eq_false q, Bool.false_and]; rfl
theorem rk_172f (w : WF h) (q : ¬ ld h 311 30 = 0) (d : Nat) : C d 172 [(2, 311)] h = some ((9, 0), h) := by
  rw [ce_172, e172_0, if_pos (F_a311 w), if_neg q]
theorem l4_171f (w : WF h) (q : ¬ ld h 311 30 = 0) (d : Nat) : V (d + 1) 171 4 [(2, 311), (9, 0)] [] h = some ((9, 0), h) := by
  rw [e171_4, if_pos (F_a311 w), Cl_eq _ (rk_147f w q 42 d), if_pos rfl, if_pos (F_a311 w), Cl_eq _ (rk_147f w q 47 d), if_pos rfl, e171_48]
theorem rk_171f (w : WF h) (q : ¬ ld h 311 30 = 0) (d : Nat) : C (d + 1) 171 [(2, 311)] h = some ((9, 0), h) := by
  rw [ce_171, e171_0, if_pos (F_a311 w), Cl_eq _ (rk_172f w q d), l4_171f w q]
theorem l4_170f (w : WF h) (q : ¬ ld h 311 30 = 0) (d : Nat) : V (d + 1) 170 4 [(2, 311), (9, 0)] [] h = some ((9, 0), h) := by
  rw [e170_4, if_pos (F_a311 w), Cl_eq _ (rk_147f w q 43 d), if_pos rfl, if_pos (F_a311 w), Cl_eq _ (rk_147f w q 45 d), if_pos rfl, e170_48]
theorem rk_170f (w : WF h) (q : ¬ ld h 311 30 = 0) (d : Nat) : C (d + 2) 170 [(2, 311)] h = some ((9, 0), h) := by
  rw [ce_170, e170_0, if_pos (F_a311 w), Cl_eq _ (rk_171f w q d), l4_170f w q]
theorem rk_169f (w : WF h) (q : ¬ ld h 311 30 = 0) (d : Nat) : C (d + 3) 169 [(2, 311)] h = some ((9, 0), h) := by
  rw [ce_169, e169_0, if_pos (F_a311 w), Cl_eq _ (rk_146f w q 13 (d + 2)), if_pos rfl, e169_30, if_pos (F_a311 w), Cl_eq _ (rk_170f w q d), if_pos (F_a311 w), if_neg q, e169_86]
theorem l4_168f (w : WF h) (q : ¬ ld h 311 30 = 0) (d : Nat) : V (d + 1) 168 4 [(2, 311)] [] h = some ((9, 0), h) := by
  rw [e168_4, if_pos (F_a311 w), Cl_eq _ (rk_146f w q 12 d), if_pos rfl, e168_36]
theorem rk_168f (w : WF h) (q : ¬ ld h 311 30 = 0) (d : Nat) : C (d + 4) 168 [(2, 311)] h = some ((9, 0), h) := by
  rw [ce_168, e168_0, if_pos (F_a311 w), Cl_eq _ (rk_169f w q d), l4_168f w q]
theorem l4_167f (w : WF h) (q : ¬ ld h 311 30 = 0) (d : Nat) : V (d + 1) 167 4 [(2, 311)] [] h = some ((9, 0), h) := by
  rw [e167_4, if_pos (F_a311 w), Cl_eq _ (rk_146f w q 11 d), if_pos rfl, e167_36]
end FT
/-- which sign it is -/
theorem rk_147t (p : PP h tp n pl) {t : Int} (ht : -17 ≤ t ∧ t ≤ -5) (d : Nat) : C d 147 [(2, 311), (0, svt t)] h = some ((0, bI (decide (tkn tp n pl = t))), h) := by
  obtain ⟨p1, p2, p3, p4, p5⟩ := p
  rw [rk_147 p1.1, decide_eq_true p4, Bool.true_and]
  congr 4
  rw [Bool.eq_iff_iff, Bool.and_eq_true, decide_eq_true_eq, decide_eq_true_eq, decide_eq_true_eq]
  have inj : ∀ a b : Int, -17 ≤ a ∧ a ≤ -5 → -17 ≤ b ∧ b ≤ -5 → svt a = svt b → a = b := by
    intro a b ha hb e
    have t := of_decide_eq_true (List.all_eq_true.mp (of_decide_eq_true (List.all_eq_true.mp (show (List.range 13).all (fun x => decide ((List.range 13).all (fun y => decide (svt (-5 - (x : Int)) = svt (-5 - (y : Int)) → x = y)) = true)) = true by decide +kernel) (-5 - a).toNat (List.mem_range.mpr (by omega)))) (-5 - b).toNat (List.mem_range.mpr (by omega)))
    rw [show -5 - (((-5 - a).toNat : Nat) : Int) = a by omega, show -5 - (((-5 - b).toNat : Nat) : Int) = b by omega] at t
    have := t e
    omega
  unfold LSx at p3
  constructor
  · rintro ⟨a, b⟩
    rcases p3 with u | u | u | u | u | u
    · omega
    · omega
    · omega
    · omega
    · exact inj _ _ u.1 ht (u.2.2.symm.trans b)
    · omega
  · intro e
    rw [e] at p3
    rcases p3 with u | u | u | u | u | u
    · omega
    · omega
    · omega
    · omega
    · exact u.2
    · omega
/-- which word it is: or, and, not -/
theorem rk_146t (p : PP h tp n pl) {x t : Int} (ht : (x = 11 ∧ t = -18) ∨ (x = 12 ∧ t = -19) ∨ (x = 13 ∧ t = -20)) (d : Nat) : C d 146 [(2, 311), (0, x)] h = some ((0, bI (decide (tkn tp n pl = t))), h) := by
  obtain ⟨p1, p2, p3, p4, p5⟩ := p
  have tb := (tkn_c tp n pl).1
  have L := (lvt tb).2.2.2.2.2.2.2.2.1
  rw [rk_146 p1.1, decide_eq_true p4, Bool.true_and]
  congr 4
  rw [Bool.eq_iff_iff, Bool.and_eq_true, decide_eq_true_eq, decide_eq_true_eq, decide_eq_true_eq]
  unfold LSx at p3
  constructor
  · rintro ⟨a, b⟩
    rcases p3 with u | u | u | u | u | u
    · omega
    · omega
    · omega
    · omega
    · omega
    · obtain ⟨l1, l2, l3, -⟩ := L u.1.2
      have ub := u.2.2.symm.trans b
      rcases ht with ⟨rfl, rfl⟩ | ⟨rfl, rfl⟩ | ⟨rfl, rfl⟩
      · exact l1.mp ub
      · exact l2.mp ub
      · exact l3.mp ub
  · intro e
    rcases p3 with u | u | u | u | u | u
    · omega
    · omega
    · omega
    · omega
    · omega
    · obtain ⟨l1, l2, l3, -⟩ := L u.1.2
      refine ⟨u.2.1, u.2.2.trans ?_⟩
      rcases ht with ⟨rfl, rfl⟩ | ⟨rfl, rfl⟩ | ⟨rfl, rfl⟩
      · exact l1.mpr e
      · exact l2.mpr e
      · exact l3.mpr e
end EH
