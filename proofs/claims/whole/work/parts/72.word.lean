/-! layer 2: words, signs, the next token -/
def spk (tp : Int → Int) (pl ln : Int) (k : Nat) : Bool := decide (((sby k).length : Int) = ln) && !anyf (fun j => !decide ((sby k).getD j.toNat 0 = tp (pl + j))) ln.toNat 0
theorem tok_tb : (List.range 38).all (fun o => decide ((tokFd.getD o []).getD 0 0 = -100 - ((sidx (o : Int) : Nat) : Int) ∧ sidx (o : Int) < 25)) = true := by decide +kernel
section WD
variable {h : Hp} {n i : Int}
theorem lpN {G : Int → Rt} {f : Int → Bool} {N : Int} (hN : 0 ≤ N) (he : G N = some ((0, 1), h)) (hs : ∀ k, 0 ≤ k → k < N → G k = if f k = true then some ((0, 0), h) else G (k + 1)) : G 0 = some ((0, bI (!anyf f N.toNat 0)), h) := by
  have key : ∀ (n : Nat) (k : Int), 0 ≤ k → k + n = N → G k = some ((0, bI (!anyf f n k)), h) := by
    intro n
    induction n with
    | zero => intro k hk hn; rw [show k = N by omega, he]; rfl
    | succ n ih =>
      intro k hk hn
      rw [hs k hk (by omega)]
      unfold anyf
      split
      · rename_i q; rw [q]; rfl
      · rename_i q; rw [Bool.eq_false_iff.mpr q]; exact ih (k + 1) (by omega) (by omega)
  exact key N.toNat 0 (by omega) (by omega)
theorem kq_60 (r : RdC h n i) {pl : Int} (hp : ld h 4 4 = pl) (hpl : 0 ≤ pl ∧ pl ≤ i) {k : Nat} (hk : k < 25) (d : Nat) : C (d + 4) 60 [(2, 4), (2, -100 - (k : Int))] h = some ((0, bI (spk (tpC h) pl (i - pl) k)), h) := by
  obtain ⟨w, r0, r1, rn, r2, ri⟩ := id r
  have wl : w32 (i - pl) = i - pl := by unfold w32; omega
  rw [ce_60, e60_0, if_pos (sg_f hk).1, Cl_eq _ (kq_247 w hk (d + 2)), if_pos (F_a4 w), if_pos (F_a4 w), r2, hp, wl]
  unfold spk
  by_cases q : ((sby k).length : Int) = i - pl
  · rw [if_pos q, e60_18, ← q, Int.toNat_natCast, decide_eq_true rfl, Bool.true_and]
    have := lpN (h := h) (N := ((sby k).length : Int)) (f := fun j => !decide ((sby k).getD j.toNat 0 = tpC h (pl + j))) (G := fun j => V (d + 4) 60 20 [(2, 4), (2, -100 - (k : Int)), (0, j)] [] h) (Int.natCast_nonneg _) (by
      show V (d + 4) 60 20 _ _ _ = _
      rw [e60_20, if_pos (sg_f hk).1, Cl_eq _ (kq_247 w hk (d + 2)), if_neg (by omega), e60_68, if_pos (by decide)]) (fun j j0 j1 => by
      show V (d + 4) 60 20 _ _ _ = (if _ then _ else V (d + 4) 60 20 _ _ _)
      have wj : True → w32 (pl + j) = pl + j := fun _ => by unfold w32; omega
      have wj1 : True → w32 (j + 1) = j + 1 := fun _ => by unfold w32; omega
      rw [e60_20, if_pos (sg_f hk).1, Cl_eq _ (kq_247 w hk (d + 2)), if_pos j1, if_pos (F_a4 w), if_pos (F_a4 w), hp, r1, wj trivial, if_pos (by omega), e60_41, if_pos (sg_f hk).1, Cl_eq _ (kq_248 w hk ⟨j0, j1⟩ d), if_pos (F_a4 w), if_pos (F_a4 w), r0, if_pos (F_a2 w), hp, wj trivial, L_a2 w, if_pos (by omega)]
      by_cases q2 : (sby k).getD j.toNat 0 = tpC h (pl + j)
      · rw [if_pos (show (sby k).getD j.toNat 0 = ld h 2 (pl + j) from q2), e60_62, wj1 trivial, if_neg (show ¬ (!decide ((sby k).getD j.toNat 0 = tpC h (pl + j))) = true by rw [decide_eq_true q2]; decide)]
      · rw [if_neg (show ¬ (sby k).getD j.toNat 0 = ld h 2 (pl + j) from q2), e60_60, if_pos (by decide), if_pos (show (!decide ((sby k).getD j.toNat 0 = tpC h (pl + j))) = true by rw [decide_eq_false q2]; rfl)])
    rw [Int.toNat_natCast] at this
    exact this
  · rw [if_neg q, e60_16, if_pos (by decide)]
    simp only [q, decide_false, Bool.false_and]
    rfl
def lxKW (tp : Int → Int) (pl e : Int) : Int := if kwO tp pl (e - pl) = -1 then (if 6 < e - pl then -2 else -3) else -1 - kwO tp pl (e - pl)
theorem al_F : okF h (-40) 5 = true ∧ len h (-40) = 38 := by
  have hs : shp h (-40) = some (5, 38) := rfl
  refine ⟨by unfold okF; rw [hs]; rfl, by unfold len; rw [hs]; rfl⟩
theorem al_ld (w : WF h) (j : Int) : ld h (-40) j = -1 - j := (w.2.2 (-40) j (by decide) (by decide)).trans rfl
theorem kq_59 (r : RdC h n i) (hp : ld h 4 4 = i) (hi : i < n) (d : Nat) : ∃ h', C (d + 5) 59 [(2, 4)] h = some ((9, 0), h') ∧ FrR h h' ∧ RdC h' n (lxE clo (tpC h) n i) ∧ ld h' 4 3 = lxKW (tpC h) i (lxE clo (tpC h) n i) ∧ ld h' 4 4 = i ∧ ld h' 4 5 = ld h 4 5 ∧ ld h' 4 6 = lxL (tpC h) i (lxE clo (tpC h) n i - i).toNat i 0 := by
  obtain ⟨w, r0, r1, rn, r2, ri⟩ := id r
  -- the tokens
  have p2 : ∀ (h1 : Hp) (e : Int), FrR h h1 → RdC h1 n e → i ≤ e → ld h1 4 4 = i → ld h1 4 5 = ld h 4 5 → ∃ h', V (d + 5) 59 108 [(2, 4), (9, 0), (9, 0), (9, 0), (9, 0)] [] h1 = some ((9, 0), h') ∧ FrR h h' ∧ RdC h' n e ∧ ld h' 4 3 = lxKW (tpC h) i e ∧ ld h' 4 4 = i ∧ ld h' 4 5 = ld h 4 5 ∧ ld h' 4 6 = ld h1 4 6 := by
    intro h1 e f1 r1' hie g4 g5
    obtain ⟨w1', r0', r1'', rn', r2', ri'⟩ := id r1'
    have ht : tpC h1 = tpC h := FrR_tp f1
    have wl : True → w32 (e - i) = e - i := fun _ => by unfold w32; omega
    have put : ∀ v, ∃ h', some (((9 : Nat), (0 : Int)), st h1 4 3 v) = some ((9, 0), h') ∧ FrR h h' ∧ RdC h' n e ∧ ld h' 4 3 = v ∧ ld h' 4 4 = i ∧ ld h' 4 5 = ld h 4 5 ∧ ld h' 4 6 = ld h1 4 6 := fun v => by
      have f2 := FrR_st f1 (j := 3) (by decide) v
      exact ⟨_, rfl, f2, RdC_fr r f2 ((ld_st_ne (Or.inr (by decide))).trans r2') (by omega), ld_st_eq _ _ _ _, (ld_st_ne (Or.inr (by decide))).trans g4, (ld_st_ne (Or.inr (by decide))).trans g5, ld_st_ne (Or.inr (by decide))⟩
    have key : ∀ (m : Nat) (o : Int), 0 ≤ o → o + m = 38 → fnd (fun o => spm (tpC h) i (e - i) o) m o = kwO (tpC h) i (e - i) → ∃ h', V (d + 5) 59 117 [(2, 4), (2, -40), (0, 38), (0, o), (9, 0)] [] h1 = some ((9, 0), h') ∧ FrR h h' ∧ RdC h' n e ∧ ld h' 4 3 = lxKW (tpC h) i e ∧ ld h' 4 4 = i ∧ ld h' 4 5 = ld h 4 5 ∧ ld h' 4 6 = ld h1 4 6 := by
      intro m
      induction m with
      | zero =>
        intro o ho hm hf
        have hk : kwO (tpC h) i (e - i) = -1 := hf.symm
        unfold lxKW
        rw [if_pos hk, e59_117, if_neg (by omega), e59_157, if_pos (F_a4 w1'), if_pos (F_a4 w1'), r2', g4, wl trivial]
        by_cases q : 6 < e - i
        · rw [if_pos q, if_pos q, e59_178, e59_181, if_pos (W_a4 w1')]; exact put (-2)
        · rw [if_neg q, if_neg q, e59_181, if_pos (W_a4 w1')]; exact put (-3)
      | succ m ih =>
        intro o ho hm hf
        have tt := of_decide_eq_true (List.all_eq_true.mp tok_tb o.toNat (List.mem_range.mpr (by omega)))
        rw [show ((o.toNat : Nat) : Int) = o by omega] at tt
        have htk : ld h1 (-1 - o) 0 = -100 - ((sidx o : Nat) : Int) := by
          rw [tk_ld w1' (by omega), show (-1 - (-1 - o)).toNat = o.toNat by omega]; exact tt.1
        have a := kq_60 r1' g4 (by omega) tt.2 d
        rw [ht] at a
        have wo : True → w32 (o + 1) = o + 1 := fun _ => by unfold w32; omega
        rw [e59_117, if_pos (by omega), if_pos (al_F (h := h1)).1, (al_F (h := h1)).2, if_pos (by omega), al_ld w1', e59_127, if_neg (by omega), if_pos (tk_F (by omega)), if_pos (F_a4 w1'), htk, Cl_eq _ a]
        simp only [bI_e0]
        unfold fnd at hf
        by_cases q : spm (tpC h) i (e - i) o = true
        · rw [if_pos q] at hf
          have q' : spk (tpC h) i (e - i) (sidx o) = true := q
          rw [if_neg (by rw [q']; decide), e59_144, if_pos (W_a4 w1')]
          have hkw : lxKW (tpC h) i e = -1 - o := by unfold lxKW; rw [← hf, if_neg (by omega)]
          rw [hkw]; exact put (-1 - o)
        · rw [if_neg q] at hf
          have q' : spk (tpC h) i (e - i) (sidx o) = false := Bool.eq_false_iff.mpr q
          rw [if_pos q', e59_151, wo trivial]
          exact ih (o + 1) (by omega) (by omega) hf
    rw [e59_108, if_pos (al_F (h := h1)).1, (al_F (h := h1)).2]
    exact key 38 0 (by decide) (by decide) rfl
  -- the letters
  have p1 : ∀ (m : Nat) (k : Int) (h1 : Hp), FrR h h1 → RdC h1 n k → i ≤ k → k + m = n → ld h1 4 4 = i → ld h1 4 5 = ld h 4 5 → ∃ h', V (d + 5) 59 5 [(2, 4), (9, 0), (9, 0), (9, 0), (9, 0)] [] h1 = some ((9, 0), h') ∧ FrR h h' ∧ RdC h' n (lxr clo (tpC h) m k) ∧ ld h' 4 3 = lxKW (tpC h) i (lxr clo (tpC h) m k) ∧ ld h' 4 4 = i ∧ ld h' 4 5 = ld h 4 5 ∧ ld h' 4 6 = lxL (tpC h) i (lxr clo (tpC h) m k - k).toNat k (ld h1 4 6) := by
    intro m
    induction m with
    | zero =>
      intro k h1 f1 r1' hik hk g4 g5
      rw [e59_5, if_pos (F_a4 r1'.1), if_pos (F_a4 r1'.1), r1'.2.2.2.2.1, r1'.2.2.1, if_neg (by omega)]
      obtain ⟨h', a, b1, b2, b3, b4, b5, b6⟩ := p2 h1 k f1 r1' hik g4 g5
      refine ⟨h', a, b1, b2, b3, b4, b5, b6.trans ?_⟩
      show _ = lxL (tpC h) i (k - k).toNat k _
      rw [show (k - k).toNat = 0 by omega]; rfl
    | succ m ih =>
      intro k h1 f1 r1' hik hk g4 g5
      have hkn : k < n := by omega
      obtain ⟨c1, c2⟩ := rd_c r1' hkn
      have ec : ld h1 2 k = tpC h k := congrFun (FrR_tp f1) k
      obtain ⟨w', r0', r1'', rn', r2', ri'⟩ := id r1'
      rw [e59_5, if_pos (F_a4 w'), if_pos (F_a4 w'), r2', r1'', if_pos hkn, e59_16, if_pos (F_a4 w'), if_pos (F_a4 w'), r0', r2', if_pos c1, if_pos c2, ec]
      have stop : clo (tpC h k) = false → ∃ h', V (d + 5) 59 108 [(2, 4), (9, 0), (9, 0), (9, 0), (9, 0)] [] h1 = some ((9, 0), h') ∧ FrR h h' ∧ RdC h' n (lxr clo (tpC h) (m + 1) k) ∧ ld h' 4 3 = lxKW (tpC h) i (lxr clo (tpC h) (m + 1) k) ∧ ld h' 4 4 = i ∧ ld h' 4 5 = ld h 4 5 ∧ ld h' 4 6 = lxL (tpC h) i (lxr clo (tpC h) (m + 1) k - k).toNat k (ld h1 4 6) := fun z => by
        have e0 : lxr clo (tpC h) (m + 1) k = k := if_neg (by rw [z]; decide)
        rw [e0]
        obtain ⟨h', a, b1, b2, b3, b4, b5, b6⟩ := p2 h1 k f1 r1' hik g4 g5
        exact ⟨h', a, b1, b2, b3, b4, b5, b6.trans (by rw [show (k - k).toNat = 0 by omega]; rfl)⟩
      by_cases q1 : tpC h k < 97
      · rw [if_pos q1]; exact stop (by unfold clo; simp [q1])
      · rw [if_neg q1, e59_30, if_pos (F_a4 w'), if_pos (F_a4 w'), r0', r2', if_pos c1, if_pos c2, ec]
        by_cases q2 : 122 < tpC h k
        · rw [if_pos q2]; exact stop (by unfold clo; simp [q2])
        · have hd : clo (tpC h k) = true := by unfold clo; simp [q1, q2]
          have e1 : lxr clo (tpC h) (m + 1) k = lxr clo (tpC h) m (k + 1) := if_pos hd
          have hb := lxr_b clo (tpC h) m (k + 1)
          have wd : True → w32 (k - i) = k - i := fun _ => by unfold w32; omega
          have wn : True → w32 (k + 1) = k + 1 := fun _ => by unfold w32; omega
          -- the next sign
          have nx : ∀ (h2 : Hp), FrR h h2 → ld h2 4 2 = k → ld h2 4 4 = i → ld h2 4 5 = ld h 4 5 → ld h2 4 6 = (if k - i < 6 then or32 (ld h1 4 6) (shl32 (tpC h k - 96) (5 * (5 - (k - i)))) else ld h1 4 6) → ∃ h', V (d + 5) 59 95 [(2, 4), (9, 0), (9, 0), (9, 0), (9, 0)] [] h2 = some ((9, 0), h') ∧ FrR h h' ∧ RdC h' n (lxr clo (tpC h) (m + 1) k) ∧ ld h' 4 3 = lxKW (tpC h) i (lxr clo (tpC h) (m + 1) k) ∧ ld h' 4 4 = i ∧ ld h' 4 5 = ld h 4 5 ∧ ld h' 4 6 = lxL (tpC h) i (lxr clo (tpC h) (m + 1) k - k).toNat k (ld h1 4 6) := by
            intro h2 f2 g22 g24 g25 g26
            have f3 := FrR_st f2 (j := 2) (by decide) (k + 1)
            have g : ∀ j, j ≠ 2 → ld (st h2 4 2 (k + 1)) 4 j = ld h2 4 j := fun j e => ld_st_ne (Or.inr e)
            obtain ⟨h', a, b1, b2, b3, b4, b5, b6⟩ := ih (k + 1) (st h2 4 2 (k + 1)) f3 (RdC_fr r f3 (ld_st_eq _ _ _ _) (by omega)) (by omega) (by omega) ((g 4 (by decide)).trans g24) ((g 5 (by decide)).trans g25)
            refine ⟨h', ?_, b1, by rw [e1]; exact b2, by rw [e1]; exact b3, b4, b5, ?_⟩
            · rw [e59_95, if_pos (F_a4 f2.1), if_pos (W_a4 f2.1), g22, wn trivial, e59_105]; exact a
            · rw [b6, g 6 (by decide), g26, e1, show (lxr clo (tpC h) m (k + 1) - k).toNat = (lxr clo (tpC h) m (k + 1) - (k + 1)).toNat + 1 by omega]
              rfl
          rw [if_neg q2, e59_44, if_pos (F_a4 w'), if_pos (F_a4 w'), r2', g4, wd trivial]
          by_cases q6 : k - i < 6
          · have wa : True → w32 (w32 (tpC h k - 97) + 1) = tpC h k - 96 := fun _ => by unfold w32; omega
            have wb : True → w32 (5 * w32 (5 - (k - i))) = 5 * (5 - (k - i)) := fun _ => by unfold w32; omega
            rw [if_pos q6, e59_58, if_pos (F_a4 w'), if_pos (F_a4 w'), if_pos (F_a4 w'), r0', r2', if_pos c1, if_pos c2, if_pos (F_a4 w'), if_pos (F_a4 w'), if_pos (W_a4 w'), ec, g4, wd trivial, wa trivial, wb trivial]
            have g : ∀ v j, j ≠ 6 → ld (st h1 4 6 v) 4 j = ld h1 4 j := fun v j e => ld_st_ne (Or.inr e)
            exact nx _ (FrR_st f1 (j := 6) (by decide) _) ((g _ 2 (by decide)).trans r2') ((g _ 4 (by decide)).trans g4) ((g _ 5 (by decide)).trans g5) (by rw [ld_st_eq, if_pos q6])
          · rw [if_neg q6]
            exact nx h1 f1 r2' g4 g5 (by rw [if_neg q6])
  have f0 := FrR_st (FrR_rf w) (j := 6) (by decide) 0
  have g : ∀ j, j ≠ 6 → ld (st h 4 6 0) 4 j = ld h 4 j := fun j e => ld_st_ne (Or.inr e)
  rw [ce_59, e59_0, if_pos (W_a4 w)]
  have := p1 (n - i).toNat i (st h 4 6 0) f0 (RdC_fr r f0 ((g 2 (by decide)).trans r2) ri) (Int.le_refl _) (by omega) ((g 4 (by decide)).trans hp) (g 5 (by decide))
  rw [ld_st_eq] at this
  exact this
end WD
