/-! layer 2: price, pick, limit; what a state is asked -/
theorem jn_bd {c x y v : Int} (h : jn c x y = some v) : -LM ≤ v ∧ v ≤ LM := by
  have hb : ∀ q : Bool, -LM ≤ bI q ∧ bI q ≤ LM := fun q => by cases q <;> decide
  have hk : ∀ z, ck z = some v → -LM ≤ v ∧ v ≤ LM := fun z e => by
    unfold ck at e; split at e <;> cases e; omega
  unfold jn at h
  split at h
  · exact hk _ h
  split at h
  · exact hk _ h
  split at h
  · split at h
    · exact hk _ h
    · split at h
      · cases h
      · exact hk _ h
  split at h
  · split at h
    · cases h
    · exact hk _ h
  repeat (first | (split at h) | (cases h; exact hb _))
theorem kstep_bd {nm : Int → Int} {so va : Int} {l l' : List Int} (h : kstep nm so va l = some l') (hl : ∀ v ∈ l, -LM ≤ v ∧ v ≤ LM) (h0 : so = 0 → -LM ≤ va ∧ va ≤ LM) (h1 : so = 1 → -LM ≤ nm va ∧ nm va ≤ LM) : ∀ v ∈ l', -LM ≤ v ∧ v ≤ LM := by
  unfold kstep at h
  split at h
  · rename_i q; cases h
    exact fun v hv => (List.mem_cons.mp hv).elim (fun z => by rw [z]; exact h0 q) (hl v)
  split at h
  · rename_i q; cases h
    exact fun v hv => (List.mem_cons.mp hv).elim (fun z => by rw [z]; exact h1 q) (hl v)
  split at h
  · split at h <;> cases h
    exact fun v hv => (List.mem_cons.mp hv).elim (fun z => by rw [z]; generalize decide (_ = (0 : Int)) = q; cases q <;> decide) (fun z => hl v (List.mem_cons_of_mem _ z))
  · split at h
    · rename_i y x r
      cases hj : jn va x y with
      | none => rw [hj] at h; cases h
      | some u =>
        rw [hj] at h; cases h
        exact fun v hv => (List.mem_cons.mp hv).elim (fun z => by rw [z]; exact jn_bd hj) (fun z => hl v (List.mem_cons_of_mem _ (List.mem_cons_of_mem _ z)))
    · cases h
theorem krun_bd {nm so va : Int → Int} : ∀ (n : Nat) (k : Int) (l l' : List Int), krun nm so va n k l = some l' → (∀ v ∈ l, -LM ≤ v ∧ v ≤ LM) → (∀ i, k ≤ i → i < k + n → (so i = 0 → -LM ≤ va i ∧ va i ≤ LM) ∧ (so i = 1 → -LM ≤ nm (va i) ∧ nm (va i) ≤ LM)) → ∀ v ∈ l', -LM ≤ v ∧ v ≤ LM
  | 0, _, l, l', h, hl, _ => by cases h; exact hl
  | n + 1, k, l, l', h, hl, hv => by
    unfold krun at h
    cases hs : kstep nm (so k) (va k) l with
    | none => rw [hs] at h; cases h
    | some u =>
      rw [hs] at h
      have h := h
      exact krun_bd n (k + 1) u l' h (kstep_bd hs hl (hv k (by omega) (by omega)).1 (hv k (by omega) (by omega)).2) (fun i a b => hv i (by omega) (by omega))
theorem nmV_I {T S : Wd} (hT : TOK T) (hTi : ∀ f i, I32 (T f i)) (hSi : ∀ f i, I32 (S f i)) (p one i : Int) : I32 (nmV T S p one i) := by
  have ow := owned_I T S hT one
  unfold nmV
  split
  · exact hTi 5 _
  split
  · exact w32_I _
  split
  · exact hSi 6 _
  split
  · unfold I32; omega
  split
  · exact hSi 0 0
  split
  · have := w32_I (T 14 p - S 0 0)
    unfold imax; split
    · exact this
    · unfold I32; omega
  · exact hSi 7 _
theorem lwV_bd {T S : Wd} (hT : TOK T) (hTi : ∀ f i, I32 (T f i)) (hSi : ∀ f i, I32 (S f i)) {k : Nat} {p one v : Int} (h : lwV T S k p one = some v) : -LM ≤ v ∧ v ≤ LM := by
  unfold lwV evl one1 at h
  split at h
  · rename_i u hu
    cases h
    exact krun_bd _ _ _ _ hu (fun v hv => absurd hv List.not_mem_nil) (fun i _ _ => ⟨fun _ => I32_LM (hTi _ _), fun _ => I32_LM (nmV_I hT hTi hSi p one _)⟩) v List.mem_cons_self
  · cases h
theorem lwV_ne {T S : Wd} (hT : TOK T) (hTi : ∀ f i, I32 (T f i)) (hSi : ∀ f i, I32 (S f i)) {k : Nat} {p one : Int} : ((lwV T S k p one).getD MINV = MINV) = (lwV T S k p one = none) := by
  cases h : lwV T S k p one with
  | none => simp
  | some v =>
    have := lwV_bd hT hTi hSi h
    have e : ¬ v = MINV := fun z => by rw [z] at this; exact absurd this (by decide)
    simp [e]
def sPrice (T S : Wd) (p : Int) : Int := match lwV T S 0 p (T 12 p) with | none => tBase T p | some v => w32 (imax 1 (imin 999 v))
def sPick (T S : Wd) (p : Int) : Int := if T 20 0 = 0 then 1 else (lwV T S 1 p (T 12 p)).getD 0
def sLim (T S : Wd) (p one : Int) : Int := w32 (imin (match lwV T S 2 p one with | none => tBase T p | some v => imax 0 (imin 999 v)) (S 6 one))
def qPaid (T S : Wd) (p : Int) : Bool := !decide (S 7 p < sPrice T S p)
def sStand (T S : Wd) (p : Int) : Int := if qLap S p = true then 3 else if qDone T S p = true then 2 else bI (qPaid T S p)
section AS
variable {h : Hp} {s b : Int}
theorem kq_93 (c : CK h s b) {p : Int} (hp : 0 ≤ p ∧ p < ld h b 11) (d : Nat) : ∃ h', C (d + 4) 93 [(2, s), (0, p)] h = some ((0, sPrice (tC h b) (sV h s b) p), h') ∧ FrS h h' := by
  obtain ⟨w, hs, hb, e, hT, hCB, hTi, hSi⟩ := id c
  obtain ⟨⟨q1, q2⟩, -, ⟨q6, q7, q8⟩, -⟩ := pie_b hT hp
  obtain ⟨h1, a1, f1⟩ := kq_96 c hp ⟨q6, q7⟩ (k := 0) (by decide) d
  have a1 : C (d + 3) 96 [(2, s), (0, 0), (0, p), (0, tC h b 12 p)] h = some ((1, (lwV (tC h b) (sV h s b) 0 p (tC h b 12 p)).getD MINV), h1) := a1
  obtain ⟨c1, t1, s1⟩ := CK_fr c f1
  obtain ⟨w1, -, -, e1, hT1, -⟩ := id c1
  refine ⟨h1, ?_, f1⟩
  rw [ce_93, e93_0, if_pos (sfF0 w hs), e, if_pos (bfF0 w hb), bfP12 w hb, if_pos (bfF9 w hb), bfL9 w hb, if_pos ⟨q1, q2⟩, if_pos (sfF0 w hs), tC_12 hp, Cl_eq _ a1, e93_16]
  simp only [lcm_e]
  rw [show ((-9223372036854775808 : Int)) = MINV from rfl]
  simp only [lwV_ne hT hTi hSi]
  unfold sPrice
  cases hv : lwV (tC h b) (sV h s b) 0 p (tC h b 12 p) with
  | none =>
    rw [if_pos rfl, if_pos (sfF0 w1 hs), e1, if_pos (bfF0 w1 hb), Cl_eq _ (kq_77 w1 hb hT1 (d + 2) (by rw [show ld h1 b 11 = ld h b 11 from congrFun (congrFun t1 2) 0]; exact hp)), e93_47, t1]
  | some v =>
    rw [if_neg (fun z => by cases z), e93_35, Cl_eq _ (min246 (d + 3) _ _), Cl_eq _ (max244 (d + 3) _ _), e93_47]
    rfl
theorem kq_94 (c : CK h s b) {p : Int} (hp : 0 ≤ p ∧ p < ld h b 11) (d : Nat) : ∃ h', C (d + 4) 94 [(2, s), (0, p)] h = some ((1, sPick (tC h b) (sV h s b) p), h') ∧ FrS h h' := by
  obtain ⟨w, hs, hb, e, hT, hCB, hTi, hSi⟩ := id c
  obtain ⟨⟨q1, q2⟩, -, ⟨q6, q7, q8⟩, -⟩ := pie_b hT hp
  have hlw : ld h (b + 17) 1 = b + 22 := bfP1_17 w hb
  have h22 : b + 22 ∈ LWL := by
    have := of_decide_eq_true (List.all_eq_true.mp (List.all_eq_true.mp lwl_b b hb) 1 (by decide))
    rw [show b + 18 + 4 * 1 = b + 22 by omega] at this; exact this
  obtain ⟨h1, a1, f1⟩ := kq_96 c hp ⟨q6, q7⟩ (k := 1) (by decide) d
  have a1 : C (d + 3) 96 [(2, s), (0, 1), (0, p), (0, tC h b 12 p)] h = some ((1, (lwV (tC h b) (sV h s b) 1 p (tC h b 12 p)).getD MINV), h1) := a1
  rw [ce_94, e94_0, if_pos (sfF0 w hs), e, if_pos (bfF0 w hb), bfP19 w hb, if_pos (bfF17 w hb), bfL17 w hb, if_pos ⟨by decide, by decide⟩, hlw, if_pos (lfF0 w h22)]
  unfold sPick
  by_cases h0 : ld h (b + 22) 3 = 0
  · refine ⟨h, ?_, FrS_rf w⟩
    rw [if_pos h0, e94_15, if_pos (show tC h b 20 0 = 0 from h0)]
  · refine ⟨h1, ?_, f1⟩
    rw [if_neg h0, if_neg (show ¬ tC h b 20 0 = 0 from h0), e94_17, if_pos (sfF0 w hs), e, if_pos (bfF0 w hb), bfP12 w hb, if_pos (bfF9 w hb), bfL9 w hb, if_pos ⟨q1, q2⟩, if_pos (sfF0 w hs), tC_12 hp, Cl_eq _ a1, e94_33]
    simp only [lcm_e, e94_45, e94_46]
    rw [show ((-9223372036854775808 : Int)) = MINV from rfl]
    simp only [lwV_ne hT hTi hSi]
    cases hv : lwV (tC h b) (sV h s b) 1 p (tC h b 12 p) with
    | none => rw [if_pos rfl]; rfl
    | some v => rw [if_neg (fun z => by cases z)]; rfl
theorem kq_95 (c : CK h s b) {p one : Int} (hp : 0 ≤ p ∧ p < ld h b 11) (ho : 0 ≤ one ∧ one < ld h b 4) (d : Nat) : ∃ h', C (d + 4) 95 [(2, s), (0, p), (0, one)] h = some ((0, sLim (tC h b) (sV h s b) p one), h') ∧ FrS h h' := by
  obtain ⟨w, hs, hb, e, hT, hCB, hTi, hSi⟩ := id c
  have b4 : 0 ≤ ld h b 4 ∧ ld h b 4 ≤ 5 := hT.2.1
  obtain ⟨h1, a1, f1⟩ := kq_96 c hp ho (k := 2) (by decide) d
  have a1 : C (d + 3) 96 [(2, s), (0, 2), (0, p), (0, one)] h = some ((1, (lwV (tC h b) (sV h s b) 2 p one).getD MINV), h1) := a1
  obtain ⟨c1, t1, s1⟩ := CK_fr c f1
  obtain ⟨w1, -, -, e1, hT1, -⟩ := id c1
  have q1 : ld h1 b 4 = ld h b 4 := congrFun (congrFun t1 1) 0
  refine ⟨h1, ?_, f1⟩
  rw [ce_95, e95_0, if_pos (sfF0 w hs), Cl_eq _ a1, e95_8]
  simp only [lcm_e]
  rw [show ((-9223372036854775808 : Int)) = MINV from rfl]
  simp only [lwV_ne hT hTi hSi]
  have fin : ∀ x : Int, V (d + 4) 95 39 [(2, s), (9, 0), (0, one), (9, 0), (9, 0), (9, 0), (9, 0)] [(1, x)] h1 = some ((0, w32 (imin x (sV h s b 6 one))), h1) := fun x => by
    rw [e95_39, if_pos (sfF0 w1 hs), sfP6 w1 hs, if_pos (sfF1 w1 hs), sfL1 w1 hs, if_pos ⟨by omega, by omega⟩, sC_6 (h := h1) (s := s) (ns := ld h1 b 4) (np := ld h1 b 11) (by rw [q1]; exact ho), show sC h1 s (ld h1 b 4) (ld h1 b 11) = sV h s b from s1, Cl_eq _ (min246 (d + 3) _ _)]
  unfold sLim
  cases hv : lwV (tC h b) (sV h s b) 2 p one with
  | none =>
    rw [if_pos rfl, if_pos (sfF0 w1 hs), e1, if_pos (bfF0 w1 hb), Cl_eq _ (kq_77 w1 hb hT1 (d + 2) (by rw [show ld h1 b 11 = ld h b 11 from congrFun (congrFun t1 2) 0]; exact hp)), fin, t1]
  | some v =>
    rw [if_neg (fun z => by cases z), e95_28, Cl_eq _ (min246 (d + 3) _ _), Cl_eq _ (max244 (d + 3) _ _), fin]
    rfl
theorem kq_90 (c : CK h s b) {p : Int} (hp : 0 ≤ p ∧ p < ld h b 11) (d : Nat) : ∃ h', C (d + 5) 90 [(2, s), (0, p)] h = some ((0, bI (qPaid (tC h b) (sV h s b) p)), h') ∧ FrS h h' := by
  obtain ⟨w, hs, hb, e, hT, hCB, hTi, hSi⟩ := id c
  obtain ⟨⟨q1, q2⟩, -⟩ := pie_b hT hp
  obtain ⟨h1, a1, f1⟩ := kq_93 c hp d
  refine ⟨h1, ?_, f1⟩
  rw [ce_90, e90_0, if_pos (sfF0 w hs), sfP7 w hs, if_pos (sfF2 w hs), sfL2 w hs, if_pos ⟨q1, q2⟩, if_pos (sfF0 w hs), Cl_eq _ a1, sC_7 (ns := ld h b 4) hp]
  simp only [e90_14, e90_18, e90_19, true_or, or_true, if_true, nb]
  rfl
theorem kq_91 (c : CK h s b) {p : Int} (hp : 0 ≤ p ∧ p < ld h b 11) (d : Nat) : C (d + 3) 91 [(2, s), (0, p)] h = some ((0, bI (qOpen (tC h b) (sV h s b) p)), h) := by
  obtain ⟨w, hs, hb, e, hT, hCB, hTi, hSi⟩ := id c
  obtain ⟨⟨q1, q2⟩, -⟩ := pie_b hT hp
  rw [ce_91, e91_0, if_pos (sfF0 w hs), Cl_eq _ (kq_88 w hs (d + 2) (ld h b 4) (ld h b 11) p)]
  simp only [sfF0 w hs, if_true, Cl_eq _ (kq_89 w hs hb e hT d hp), e91_16, e, bfF0 w hb, bfP12 w hb, bfF9 w hb, bfL9 w hb, q1, q2, and_self, Cl_eq _ (kq_87 w hs (d + 2) (ld h b 4) (ld h b 11) _), e91_32, e91_36, e91_37, true_or, or_true, bI_e0, nb, tC_12 hp]
  unfold qOpen
  cases qLap (sC h s (ld h b 4) (ld h b 11)) p <;> cases qDone (tC h b) (sC h s (ld h b 4) (ld h b 11)) p <;> cases qLiv (sC h s (ld h b 4) (ld h b 11)) (tC h b 12 p) <;> simp [bI]
theorem kq_92 (c : CK h s b) {p : Int} (hp : 0 ≤ p ∧ p < ld h b 11) (d : Nat) : ∃ h', C (d + 6) 92 [(2, s), (0, p)] h = some ((0, sStand (tC h b) (sV h s b) p), h') ∧ FrS h h' := by
  obtain ⟨w, hs, hb, e, hT, hCB, hTi, hSi⟩ := id c
  obtain ⟨h1, a1, f1⟩ := kq_90 c hp d
  rw [ce_92, e92_0, if_pos (sfF0 w hs), Cl_eq _ (kq_88 w hs (d + 5) (ld h b 4) (ld h b 11) p)]
  simp only [e92_10, sfF0 w hs, if_true, Cl_eq _ (kq_89 w hs hb e hT (d + 3) hp), e92_20, Cl_eq _ a1, e92_32, e92_33, bI_e0]
  unfold sStand
  cases hl : qLap (sC h s (ld h b 4) (ld h b 11)) p with
  | true => exact ⟨h, by simp, FrS_rf w⟩
  | false =>
    cases hd : qDone (tC h b) (sC h s (ld h b 4) (ld h b 11)) p with
    | true => exact ⟨h, by simp, FrS_rf w⟩
    | false => exact ⟨h1, by cases qPaid (tC h b) (sV h s b) p <;> simp [bI], f1⟩
end AS
