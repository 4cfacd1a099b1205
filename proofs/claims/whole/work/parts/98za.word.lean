/-! layer 2: the plain program packs words -/
def rwi (o : Int) : Int := if o = 17 then 11 else if o = 18 then 12 else if o = 19 then 13 else if o < 31 then o - 20 else o - 17
def rtau (i : Nat) : Nat := if i < 11 then i + 20 else if i = 11 then 17 else if i = 12 then 18 else if i = 13 then 19 else i + 17
theorem ri_tb : (List.range 38).all (fun o => decide (17 ≤ o → sidx (o : Int) = rwk (rwi (o : Int)).toNat ∧ 0 ≤ rwi (o : Int) ∧ rwi (o : Int) < 21)) = true := by decide +kernel
theorem rt_tb : (List.range 21).all (fun i => decide (sidx ((rtau i : Nat) : Int) = rwk i ∧ rtau i < 38)) = true := by decide +kernel
theorem spm_k (tp : Int → Int) (pl ln o : Int) : spm tp pl ln o = spk tp pl ln (sidx o) := rfl
theorem fnd_no {f : Int → Bool} : ∀ (n : Nat) (k : Int), fnd f n k = -1 → 0 ≤ k → ∀ i, k ≤ i → i < k + n → f i = false
  | 0, k, _, _, i, i0, i1 => absurd i1 (by omega)
  | n + 1, k, e, k0, i, i0, i1 => by
    unfold fnd at e
    cases q : f k with
    | true => rw [q, if_pos rfl] at e; omega
    | false =>
      rw [q, if_neg (by decide)] at e
      by_cases y : i = k
      · rw [y]; exact q
      · exact fnd_no n (k + 1) e (by omega) i (by omega) (by omega)
theorem kw_ref {tp : Int → Int} {pl ln : Int} (hl : 1 ≤ ln) : fnd (fun i => spk tp pl ln (rwk i.toNat)) 21 0 = if kwO tp pl ln = -1 then -1 else rwi (kwO tp pl ln) := by
  rcases kwO_b tp pl ln hl with q | q
  · rw [if_pos q]
    refine fnd_0 21 0 (fun i i0 i1 => ?_)
    have t := of_decide_eq_true (List.all_eq_true.mp rt_tb i.toNat (List.mem_range.mpr (by omega)))
    have := fnd_no 38 0 q (by decide) ((rtau i.toNat : Nat) : Int) (by omega) (by omega)
    rw [spm_k, t.1] at this
    exact this
  · rw [if_neg (by omega)]
    have hs : spm tp pl ln (kwO tp pl ln) = true := by
      rcases fnd_rng (f := fun o => spm tp pl ln o) 38 0 with u | ⟨u1, u2, u3⟩
      · have : kwO tp pl ln = -1 := u
        omega
      · exact u3
    generalize kwO tp pl ln = o at *
    have t := of_decide_eq_true (List.all_eq_true.mp ri_tb o.toNat (List.mem_range.mpr (by omega))) (by omega)
    rw [show ((o.toNat : Nat) : Int) = o by omega] at t
    obtain ⟨t1, t2, t3⟩ := t
    rw [spm_k, t1] at hs
    refine fnd_1 21 0 _ t2 (by omega) hs (fun i i0 i1 => ?_)
    exact spk_u (i := (rwi o).toNat) (k := i.toNat) (by omega) (by omega) hs
theorem orS {a b : Int} (i : Nat) (ha : 0 ≤ a) (hb : 0 ≤ b ∧ b < ((2 ^ i : Nat) : Int)) (hs : ((2 ^ i : Nat) : Int) * a + b < 2147483648) : or32 (((2 ^ i : Nat) : Int) * a) b = ((2 ^ i : Nat) : Int) * a + b := by
  obtain ⟨A, rfl⟩ := Int.eq_ofNat_of_zero_le ha
  obtain ⟨B, rfl⟩ := Int.eq_ofNat_of_zero_le hb.1
  have hB : B < 2 ^ i := by omega
  have e : ((2 ^ i : Nat) : Int) * (A : Int) = ((2 ^ i * A : Nat) : Int) := by push_cast; rfl
  rw [e] at hs ⊢
  rw [or32_n (by omega) (by omega), ← Nat.two_pow_add_eq_or_of_lt hB A]
  push_cast; rfl
def lc (tp : Int → Int) (pl : Int) (L : Nat) (x : Nat) : Int := if x < L then tp (pl + (x : Int)) - 96 else 0
def hw (tp : Int → Int) (pl : Int) (L : Nat) : Nat → Int
  | 0 => 0
  | x + 1 => 32 * hw tp pl L x + lc tp pl L x
def p32 (k : Nat) : Int := ((2 ^ (5 * k) : Nat) : Int)
theorem p32_s (k : Nat) : p32 (k + 1) = 32 * p32 k := by
  unfold p32
  rw [show 5 * (k + 1) = 5 * k + 5 by omega, Nat.pow_add]
  push_cast; omega
theorem p32_6 : p32 0 = 1 ∧ p32 1 = 32 ∧ p32 2 = 1024 ∧ p32 3 = 32768 ∧ p32 4 = 1048576 ∧ p32 5 = 33554432 ∧ p32 6 = 1073741824 := by unfold p32; decide
theorem hw_b {tp : Int → Int} {pl : Int} {L : Nat} (hc : ∀ x : Nat, x < L → 1 ≤ tp (pl + (x : Int)) - 96 ∧ tp (pl + (x : Int)) - 96 ≤ 26) : ∀ x : Nat, 0 ≤ hw tp pl L x ∧ hw tp pl L x < p32 x
  | 0 => ⟨Int.le_refl _, by show (0 : Int) < p32 0; unfold p32; decide⟩
  | x + 1 => by
    have ih := hw_b hc x
    have e := p32_s x
    have l : 0 ≤ lc tp pl L x ∧ lc tp pl L x ≤ 31 := by
      unfold lc
      split
      · rename_i q; have := hc x q; omega
      · omega
    show 0 ≤ 32 * hw tp pl L x + lc tp pl L x ∧ 32 * hw tp pl L x + lc tp pl L x < p32 (x + 1)
    omega
theorem lxL_h {tp : Int → Int} {pl : Int} {L : Nat} (hL : L ≤ 6) (hc : ∀ x : Nat, x < L → 1 ≤ tp (pl + (x : Int)) - 96 ∧ tp (pl + (x : Int)) - 96 ≤ 26) : ∀ (m k : Nat), k + m = L → lxL tp pl m (pl + (k : Int)) (p32 (6 - k) * hw tp pl L k) = p32 (6 - L) * hw tp pl L L
  | 0, k, hk => by
    rw [show k = L by omega]; rfl
  | m + 1, k, hk => by
    have b := hw_b hc k
    have b1 := hw_b hc (k + 1)
    have c := hc k (by omega)
    have pk : p32 (6 - k) = 32 * p32 (5 - k) := by rw [show 6 - k = (5 - k) + 1 by omega, p32_s]
    have p6 : p32 (5 - k) * p32 (k + 1) = 1073741824 := by
      have : k = 0 ∨ k = 1 ∨ k = 2 ∨ k = 3 ∨ k = 4 ∨ k = 5 := by omega
      obtain ⟨q0, q1, q2, q3, q4, q5, q6⟩ := p32_6
      rcases this with rfl | rfl | rfl | rfl | rfl | rfl <;> simp only [q0, q1, q2, q3, q4, q5, q6] <;> decide
    have hl : lc tp pl L k = tp (pl + (k : Int)) - 96 := by unfold lc; rw [if_pos (by omega)]
    have hw1 : hw tp pl L (k + 1) = 32 * hw tp pl L k + (tp (pl + (k : Int)) - 96) := by
      show 32 * hw tp pl L k + lc tp pl L k = _
      rw [hl]
    have pp : 0 < p32 (5 - k) := by unfold p32; have := Nat.pow_pos (n := 5 * (5 - k)) (show 0 < 2 by decide); omega
    have top : p32 (5 - k) * hw tp pl L (k + 1) < 1073741824 := by
      rw [← p6]; exact Int.mul_lt_mul_of_pos_left b1.2 pp
    have sh : shl32 (tp (pl + (k : Int)) - 96) (5 * (5 - ((pl + (k : Int)) - pl))) = p32 (5 - k) * (tp (pl + (k : Int)) - 96) := by
      have e2 : p32 (5 - k) * (tp (pl + (k : Int)) - 96) ≤ p32 (5 - k) * hw tp pl L (k + 1) := Int.mul_le_mul_of_nonneg_left (by omega) (by omega)
      have e3 : 0 ≤ p32 (5 - k) * (tp (pl + (k : Int)) - 96) := Int.mul_nonneg (by omega) (by omega)
      unfold shl32
      rw [show ((5 * (5 - ((pl + (k : Int)) - pl))) % 32).toNat = 5 * (5 - k) by omega]
      have e4 : (tp (pl + (k : Int)) - 96) * 2 ^ (5 * (5 - k)) = p32 (5 - k) * (tp (pl + (k : Int)) - 96) := by
        unfold p32; rw [Int.mul_comm]; push_cast; rfl
      rw [e4]
      generalize p32 (5 - k) * (tp (pl + (k : Int)) - 96) = u at *
      unfold w32; omega
    have orr : or32 (p32 (6 - k) * hw tp pl L k) (p32 (5 - k) * (tp (pl + (k : Int)) - 96)) = p32 (5 - k) * hw tp pl L (k + 1) := by
      have e1 : p32 (6 - k) * hw tp pl L k + p32 (5 - k) * (tp (pl + (k : Int)) - 96) = p32 (5 - k) * hw tp pl L (k + 1) := by
        rw [hw1, pk, Int.mul_add, ← Int.mul_assoc, Int.mul_comm (p32 (5 - k)) 32]
      rw [← e1]
      refine orS (5 * (6 - k)) b.1 ⟨Int.mul_nonneg (by omega) (by omega), ?_⟩ (by show p32 (6 - k) * _ + _ < _; omega)
      show _ < p32 (6 - k)
      rw [pk, Int.mul_comm 32]
      exact Int.mul_lt_mul_of_pos_left (by omega) pp
    unfold lxL
    rw [if_pos (by omega), sh, orr, show pl + (k : Int) + 1 = pl + ((k + 1 : Nat) : Int) by omega, show 5 - k = 6 - (k + 1) by omega]
    exact lxL_h hL hc m (k + 1) (by omega)
theorem hw_up {tp : Int → Int} {pl : Int} {L : Nat} : ∀ m : Nat, hw tp pl L (L + m) = p32 m * hw tp pl L L
  | 0 => by rw [show p32 0 = 1 by unfold p32; decide, Int.one_mul]; rfl
  | m + 1 => by
    show 32 * hw tp pl L (L + m) + lc tp pl L (L + m) = _
    have : lc tp pl L (L + m) = 0 := by unfold lc; rw [if_neg (by omega)]
    rw [this, hw_up m, p32_s, Int.add_zero, Int.mul_assoc]
theorem lxL_6 {tp : Int → Int} {pl : Int} {L : Nat} (hL : L ≤ 6) (hc : ∀ x : Nat, x < L → 1 ≤ tp (pl + (x : Int)) - 96 ∧ tp (pl + (x : Int)) - 96 ≤ 26) : lxL tp pl L pl 0 = hw tp pl L 6 := by
  have := lxL_h hL hc L 0 (by omega)
  rw [show hw tp pl L 0 = 0 from rfl, Int.mul_zero, show pl + ((0 : Nat) : Int) = pl by omega] at this
  rw [this, ← hw_up (6 - L), show L + (6 - L) = 6 by omega]
