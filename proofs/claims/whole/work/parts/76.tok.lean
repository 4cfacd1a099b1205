/-! layer 2: the parser at a token -/
def wL (tp : Int → Int) (n pl : Int) : Int := lxL tp pl (lxE clo tp n pl - pl).toNat pl 0
def wN (tp : Int → Int) (n pl : Int) : Int := lxN tp 0 (lxE cdg tp n pl - pl).toNat pl 0
def tkn (tp : Int → Int) (n pl : Int) : Int := (lTok tp n pl).1
/-- the place of the token behind the one at pl -/
def adv (tp : Int → Int) (n pl : Int) : Int := lxP tp n (lTok tp n pl).2
theorem kw_tb : (List.range 17).all (fun o => decide ((sby (sidx (o : Int))).length = 0)) = true := by decide +kernel
theorem kwO_b (tp : Int → Int) (pl ln : Int) (h : 1 ≤ ln) : kwO tp pl ln = -1 ∨ (17 ≤ kwO tp pl ln ∧ kwO tp pl ln < 38) := by
  rcases fnd_rng (f := fun o => spm tp pl ln o) 38 0 with q | ⟨q1, q2, q3⟩
  · exact Or.inl q
  · refine Or.inr ⟨?_, q2⟩
    show 17 ≤ fnd (fun o => spm tp pl ln o) 38 0
    generalize fnd (fun o => spm tp pl ln o) 38 0 = o at *
    by_cases z : 17 ≤ o
    · exact z
    · exfalso
      have := of_decide_eq_true (List.all_eq_true.mp kw_tb o.toNat (List.mem_range.mpr (by omega)))
      rw [show ((o.toNat : Nat) : Int) = o by omega] at this
      have q3 : spm tp pl ln o = true := q3
      unfold spm at q3
      rw [Bool.and_eq_true, decide_eq_true_eq, this] at q3
      have := q3.1
      omega
theorem lxE_1 {p : Int → Bool} {tp : Int → Int} {n pl : Int} (h : pl < n) (hp : p (tp pl) = true) : pl + 1 ≤ lxE p tp n pl ∧ lxE p tp n pl ≤ n := by
  unfold lxE
  have hn : (n - pl).toNat = (n - (pl + 1)).toNat + 1 := by omega
  have hb := lxr_b p tp (n - (pl + 1)).toNat (pl + 1)
  rw [hn]
  show pl + 1 ≤ (if p (tp pl) = true then _ else _) ∧ (if p (tp pl) = true then _ else _) ≤ n
  rw [if_pos hp]
  omega
theorem lxKW_b (tp : Int → Int) {pl e : Int} (h : pl + 1 ≤ e) : lxKW tp pl e = -2 ∨ lxKW tp pl e = -3 ∨ (-38 ≤ lxKW tp pl e ∧ lxKW tp pl e ≤ -18) := by
  unfold lxKW
  rcases kwO_b tp pl (e - pl) (by omega) with q | q
  · rw [if_pos q]; split <;> simp
  · rw [if_neg (by omega)]; right; right; omega
theorem lxS_b (c e : Int) : lxS c e = -2 ∨ (-17 ≤ lxS c e ∧ lxS c e ≤ -5) := by
  unfold lxS
  repeat (first | (split; · omega) | split | omega)
/-- what a token's number says of its sign -/
theorem tkn_c (tp : Int → Int) (n pl : Int) : (-38 ≤ tkn tp n pl ∧ tkn tp n pl ≤ -1) ∧ (tkn tp n pl = -3 → pl < n ∧ clo (tp pl) = true) ∧ (tkn tp n pl = -4 → pl < n ∧ clo (tp pl) = false ∧ cdg (tp pl) = true) ∧ (tkn tp n pl = -1 ↔ ¬ pl < n) ∧ (tkn tp n pl ≤ -18 → pl < n ∧ clo (tp pl) = true) := by
  unfold tkn lTok
  by_cases q : pl < n
  · rw [if_neg (fun z => z q)]
    cases hl : clo (tp pl) with
    | true =>
      rw [if_pos rfl]
      have := lxKW_b tp (lxE_1 q hl).1
      show (-38 ≤ lxKW _ _ _ ∧ lxKW _ _ _ ≤ -1) ∧ (lxKW _ _ _ = -3 → _) ∧ (lxKW _ _ _ = -4 → _) ∧ (lxKW _ _ _ = -1 ↔ _) ∧ (lxKW _ _ _ ≤ -18 → _)
      refine ⟨by omega, fun _ => ⟨q, rfl⟩, fun z => by omega, ⟨fun z => by omega, fun z => absurd q z⟩, fun _ => ⟨q, rfl⟩⟩
    | false =>
      rw [if_neg (by decide)]
      cases hd : cdg (tp pl) with
      | true =>
        rw [if_pos rfl]
        show (-38 ≤ (-4 : Int) ∧ (-4 : Int) ≤ -1) ∧ ((-4 : Int) = -3 → _) ∧ ((-4 : Int) = -4 → _) ∧ ((-4 : Int) = -1 ↔ _) ∧ ((-4 : Int) ≤ -18 → _)
        exact ⟨by decide, fun z => by omega, fun _ => ⟨q, rfl, rfl⟩, ⟨fun z => by omega, fun z => absurd q z⟩, fun z => by omega⟩
      | false =>
        rw [if_neg (by decide)]
        have := lxS_b (tp pl) (lxX tp n (pl + 1))
        show (-38 ≤ lxS _ _ ∧ lxS _ _ ≤ -1) ∧ (lxS _ _ = -3 → _) ∧ (lxS _ _ = -4 → _) ∧ (lxS _ _ = -1 ↔ _) ∧ (lxS _ _ ≤ -18 → _)
        exact ⟨by omega, fun z => by omega, fun z => by omega, ⟨fun z => by omega, fun z => absurd q z⟩, fun z => by omega⟩
  · rw [if_pos q]
    show (-38 ≤ (-1 : Int) ∧ (-1 : Int) ≤ -1) ∧ ((-1 : Int) = -3 → _) ∧ ((-1 : Int) = -4 → _) ∧ ((-1 : Int) = -1 ↔ _) ∧ ((-1 : Int) ≤ -18 → _)
    exact ⟨by decide, fun z => by omega, fun z => by omega, ⟨fun _ => q, fun _ => rfl⟩, fun z => by omega⟩
/-- the parser (3) with its book b at the token at pl -/
def PS (h : Hp) (tp : Int → Int) (b n pl : Int) : Prop := RdC h n (lTok tp n pl).2 ∧ tpC h = tp ∧ b ∈ BKL ∧ ld h 3 1 = b ∧ ld h 4 3 = tkn tp n pl ∧ ld h 4 4 = pl ∧ (0 ≤ ld h 4 5 ∧ ld h 4 5 ≤ 100000) ∧ (pl < n → clo (tp pl) = true → ld h 4 6 = wL tp n pl) ∧ (pl < n → clo (tp pl) = false → cdg (tp pl) = true → imin 10000 (ld h 4 5) = wN tp n pl)
section PT
variable {h : Hp} {tp : Int → Int} {b n pl : Int}
theorem PS_adv (p : PS h tp b n pl) (d : Nat) : ∃ h', C (d + 6) 58 [(2, 4)] h = some ((9, 0), h') ∧ FrR h h' ∧ PS h' tp b n (adv tp n pl) := by
  obtain ⟨r, t, hb, e1, e3, e4, e5, e6, e7⟩ := id p
  obtain ⟨h', a, f, r', g3, g4, g5, g6, g7⟩ := kq_58 r e5 d
  rw [t] at r' g3 g4 g6 g7
  exact ⟨h', a, f, r', (FrR_tp f).trans t, hb, (f.2.2 3 1 (by decide)).trans e1, g3, g4, g5, g6, g7⟩
/-- a change elsewhere keeps the parser's place -/
theorem PS_keep {h' : Hp} (p : PS h tp b n pl) (w : WF h') (e4 : ∀ j, ld h' 4 j = ld h 4 j) (e2 : ∀ j, ld h' 2 j = ld h 2 j) (e3 : ld h' 3 1 = ld h 3 1) : PS h' tp b n pl := by
  obtain ⟨r, t, hb, e1, g3, g4, g5, g6, g7⟩ := id p
  obtain ⟨r0, r1, r2, r3, r4, r5⟩ := id r
  refine ⟨⟨w, (e4 0).trans r1, (e4 1).trans r2, r3, (e4 2).trans r4, r5⟩, (funext e2).trans t, hb, e3.trans e1, (e4 3).trans g3, (e4 4).trans g4, by rw [e4 5]; exact g5, by rw [e4 6]; exact g6, by rw [e4 5]; exact g7⟩
theorem n3 {j : Int} (hj : 1 ≤ j ∧ j ≤ 8) (h2 : j ≠ 2) : npt 3 j := npt_J (by
  have h6 : j = 1 ∨ j = 3 ∨ j = 4 ∨ j = 5 ∨ j = 6 ∨ j = 7 ∨ j = 8 := by omega
  rcases h6 with rfl | rfl | rfl | rfl | rfl | rfl | rfl <;> decide +kernel)
theorem P3_0 {h : Hp} (w : WF h) : ld h 3 0 = 4 := wf_pt w (pt_in (by decide +kernel))
theorem P3_2 {h : Hp} (w : WF h) : ld h 3 2 = 36 := wf_pt w (pt_in (by decide +kernel))
/-- a fault -/
theorem kq_35 (p : PS h tp b n pl) (k : Int) (d : Nat) : C d 35 [(2, 3), (0, k)] h = some ((0, 0), st (st h 3 7 k) 3 8 pl) ∧ WF (st (st h 3 7 k) 3 8 pl) := by
  obtain ⟨r, t, hb, e1, g3, g4, -⟩ := id p
  have w := r.1
  have w1 : WF (st h 3 7 k) := wf_st w (n3 (by decide) (by decide))
  refine ⟨?_, wf_st w1 (n3 (by decide) (by decide))⟩
  rw [ce_35, e35_0, if_pos (W_a3 w), if_pos (F_a3 w1), P3_0 w1, if_pos (F_a4 w1), if_pos (W_a3 w1), show ld (st h 3 7 k) 4 4 = pl from (ld_st_ne (Or.inl (by decide))).trans g4, e35_16, if_pos (by decide)]
/-- a number in bounds, or a fault -/
theorem kq_39 (p : PS h tp b n pl) {lo hi : Int} (hh : hi ≤ 9999) (d : Nat) : C (d + 1) 39 [(2, 3), (0, lo), (0, hi)] h = (if tkn tp n pl = -4 then (if ld h 4 5 < lo ∨ hi < ld h 4 5 then some ((0, 0), st (st h 3 7 2) 3 8 pl) else some ((0, 1), h)) else some ((0, 0), st (st h 3 7 1) 3 8 pl)) := by
  obtain ⟨r, t, hb, e1, g3, g4, -⟩ := id p
  have w := r.1
  have tb := (tkn_c tp n pl).1
  rw [ce_39, e39_0, if_pos (F_a3 w), P3_0 w, if_pos (F_a4 w), g3, if_pos ⟨by unfold isTok; simp; omega, by decide⟩]
  by_cases q : tkn tp n pl = -4
  · rw [if_pos q, if_pos q, e39_19, if_pos (F_a3 w), P3_0 w, if_pos (F_a4 w)]
    by_cases q1 : ld h 4 5 < lo
    · rw [if_pos q1, if_pos (Or.inl q1), e39_41, if_pos (F_a3 w), Cl_eq _ (kq_35 p 2 d).1, if_pos rfl, e39_53, e39_54, if_pos (by decide)]
    · rw [if_neg q1, e39_30, if_pos (F_a3 w), P3_0 w, if_pos (F_a4 w)]
      by_cases q2 : hi < ld h 4 5
      · rw [if_pos q2, if_pos (Or.inr q2), e39_41, if_pos (F_a3 w), Cl_eq _ (kq_35 p 2 d).1, if_pos rfl, e39_53, e39_54, if_pos (by decide)]
      · rw [if_neg q2, if_neg (fun z => z.elim q1 q2), e39_49, e39_54, if_pos (by decide)]
  · rw [if_neg q, if_neg q, if_pos (F_a3 w), Cl_eq _ (kq_35 p 1 d).1, if_pos (by decide)]
theorem kq_38 (p : PS h tp b n pl) (x : Int) (d : Nat) : C (d + 1) 38 [(2, 3), (0, x)] h = (if tkn tp n pl = -3 then (if x = -1 then some ((0, 1), h) else some ((0, 0), st (st h 3 7 3) 3 8 pl)) else some ((0, 0), st (st h 3 7 1) 3 8 pl)) := by
  obtain ⟨r, t, hb, e1, g3, g4, -⟩ := id p
  have w := r.1
  have tb := (tkn_c tp n pl).1
  rw [ce_38, e38_0, if_pos (F_a3 w), P3_0 w, if_pos (F_a4 w), g3, if_pos ⟨by unfold isTok; simp; omega, by decide⟩]
  by_cases q : tkn tp n pl = -3
  · rw [if_pos q, if_pos q, e38_19]
    by_cases q1 : x = -1
    · rw [if_pos q1, if_pos q1, e38_32, e38_37, if_pos (by decide)]
    · rw [if_neg q1, if_neg q1, if_pos (F_a3 w), Cl_eq _ (kq_35 p 3 d).1, if_pos rfl, e38_36, e38_37, if_pos (by decide)]
  · rw [if_neg q, if_neg q, if_pos (F_a3 w), Cl_eq _ (kq_35 p 1 d).1, if_pos (by decide)]
theorem kq_42 (p : PS h tp b n pl) (x : Int) (d : Nat) : C (d + 1) 42 [(2, 3), (0, x)] h = (if tkn tp n pl = -3 then (if x = -1 then some ((0, 0), st (st h 3 7 4) 3 8 pl) else some ((0, 1), h)) else some ((0, 0), st (st h 3 7 1) 3 8 pl)) := by
  obtain ⟨r, t, hb, e1, g3, g4, -⟩ := id p
  have w := r.1
  have tb := (tkn_c tp n pl).1
  rw [ce_42, e42_0, if_pos (F_a3 w), P3_0 w, if_pos (F_a4 w), g3, if_pos ⟨by unfold isTok; simp; omega, by decide⟩]
  by_cases q : tkn tp n pl = -3
  · rw [if_pos q, if_pos q, e42_19]
    by_cases q1 : x = -1
    · rw [if_pos q1, if_pos q1, if_pos (F_a3 w), Cl_eq _ (kq_35 p 4 d).1, if_pos rfl, e42_36, e42_37, if_pos (by decide)]
    · rw [if_neg q1, if_neg q1, e42_32, e42_37, if_pos (by decide)]
  · rw [if_neg q, if_neg q, if_pos (F_a3 w), Cl_eq _ (kq_35 p 1 d).1, if_pos (by decide)]
end PT
