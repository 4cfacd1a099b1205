/-! layer 2: a knot put into a law -/
def tPut (T : Wd) (k : Nat) (t v : Int) : Wd := if T (19 + k) 0 < 64 then tKno T k t v else T
theorem ksort_I (t : Int) : I32 (ksort t) := by unfold ksort; split; · exact I32_of (by decide)
                                                split; · exact I32_of (by decide)
                                                exact I32_of (by decide)
theorem tokOp_tb : (List.range 40).all (fun k => decide (0 ≤ tokOp k ∧ tokOp k < 1000)) = true := by decide +kernel
theorem kval_I {t v : Int} (hv : I32 v) : I32 (kval t v) := by
  unfold kval
  split
  · have := of_decide_eq_true (List.all_eq_true.mp tokOp_tb (-1 - t).toNat (List.mem_range.mpr (by omega)))
    exact I32_of (by omega)
  split
  · exact I32_of (by omega)
  · exact hv
theorem I32_kno {T : Wd} (hI : ∀ f i, I32 (T f i)) {k : Nat} (h5 : 0 ≤ T (19 + k) 0 ∧ T (19 + k) 0 < 64) (t : Int) {v : Int} (hv : I32 v) : ∀ f i, I32 (tKno T k t v f i) := fun f i => by
  unfold tKno
  split
  · exact I32_of (by omega)
  split
  · exact ksort_I t
  split
  · exact kval_I hv
  · exact hI f i
section KP
variable {h : Hp} {tp : Int → Int} {b n pl : Int} {T : Wd} {tw hl kn : Int}
theorem kq_81p0 (p : PL h tp b n pl T tw hl kn) {t v : Int} (ht : -38 ≤ t ∧ t ≤ -1) (hv : I32 v) (d : Nat) : ∃ h', C d 81 [(2, b + 18), (2, t), (0, v)] h = some ((9, 0), h') ∧ BkF b h h' ∧ PL h' tp b n pl (tPut T 0 t v) tw hl kn := by
  have w := p.1.1.1
  have hb := p.1.2.2.1
  have e0 : ld h (b + 18) 3 = T 19 0 := congrFun (congrFun p.2.1 19) 0
  have cb := p.2.2.2.2.2.2.1
  have c0 := (cb 0 (by decide) (by decide)).1
  rw [show b + 18 + 4 * (0 : Int) = b + 18 by omega] at c0
  unfold tPut
  by_cases q : T 19 0 < 64
  · obtain ⟨h', a, f, e, e8, e17, cl⟩ := kq_81_0 w hb (by rw [e0]; rw [e0] at c0; exact ⟨c0.1, q⟩) ht v d
    rw [p.2.1] at e
    refine ⟨h', a, f, ?_⟩
    rw [if_pos q]
    refine PL_bk p f e (e8.trans p.2.2.1) (e17.trans p.2.2.2.1) p.2.2.2.2.2.1 (fun k' k0 k3 => ?_) (I32_kno p.2.2.2.2.2.2.2.1 (by rw [← e0]; rw [← e0] at q; exact ⟨c0.1, q⟩) t hv)
    obtain ⟨g1, g2⟩ := cl k' k0 k3
    obtain ⟨b1, b2⟩ := cb k' k0 k3
    rw [g1]
    by_cases z : k' = 0
    · rw [if_pos z]
      refine ⟨by omega, fun i i0 i1 => ?_⟩
      rw [(g2 i).1, (g2 i).2]
      by_cases y : i = ld h (b + 18) 3
      · rw [if_pos ⟨z, y⟩, if_pos ⟨z, y⟩]; exact ⟨ht, hv⟩
      · rw [if_neg (fun x => y x.2), if_neg (fun x => y x.2)]
        exact b2 i i0 (by rw [z, show b + 18 + 4 * (0 : Int) = b + 18 by omega]; omega)
    · rw [if_neg z]
      refine ⟨b1, fun i i0 i1 => ?_⟩
      rw [(g2 i).1, (g2 i).2, if_neg (fun x => z x.1), if_neg (fun x => z x.1)]
      exact b2 i i0 i1
  · have hq : b + 18 ∈ LWL := by
      have := of_decide_eq_true (List.all_eq_true.mp (List.all_eq_true.mp lwl_b b hb) 0 (by decide))
      rw [show b + 18 + 4 * 0 = b + 18 by omega] at this; exact this
    refine ⟨h, ?_, BkF_rf w, by rw [if_neg q]; exact p⟩
    rw [ce_81, e81_0, if_pos (lfF0 w hq), e0, if_neg q, e81_39]
theorem kq_81p1 (p : PL h tp b n pl T tw hl kn) {t v : Int} (ht : -38 ≤ t ∧ t ≤ -1) (hv : I32 v) (d : Nat) : ∃ h', C d 81 [(2, b + 22), (2, t), (0, v)] h = some ((9, 0), h') ∧ BkF b h h' ∧ PL h' tp b n pl (tPut T 1 t v) tw hl kn := by
  have w := p.1.1.1
  have hb := p.1.2.2.1
  have e0 : ld h (b + 22) 3 = T 20 0 := congrFun (congrFun p.2.1 20) 0
  have cb := p.2.2.2.2.2.2.1
  have c0 := (cb 1 (by decide) (by decide)).1
  rw [show b + 18 + 4 * (1 : Int) = b + 22 by omega] at c0
  unfold tPut
  by_cases q : T 20 0 < 64
  · obtain ⟨h', a, f, e, e8, e17, cl⟩ := kq_81_1 w hb (by rw [e0]; rw [e0] at c0; exact ⟨c0.1, q⟩) ht v d
    rw [p.2.1] at e
    refine ⟨h', a, f, ?_⟩
    rw [if_pos q]
    refine PL_bk p f e (e8.trans p.2.2.1) (e17.trans p.2.2.2.1) p.2.2.2.2.2.1 (fun k' k0 k3 => ?_) (I32_kno p.2.2.2.2.2.2.2.1 (by rw [← e0]; rw [← e0] at q; exact ⟨c0.1, q⟩) t hv)
    obtain ⟨g1, g2⟩ := cl k' k0 k3
    obtain ⟨b1, b2⟩ := cb k' k0 k3
    rw [g1]
    by_cases z : k' = 1
    · rw [if_pos z]
      refine ⟨by omega, fun i i0 i1 => ?_⟩
      rw [(g2 i).1, (g2 i).2]
      by_cases y : i = ld h (b + 22) 3
      · rw [if_pos ⟨z, y⟩, if_pos ⟨z, y⟩]; exact ⟨ht, hv⟩
      · rw [if_neg (fun x => y x.2), if_neg (fun x => y x.2)]
        exact b2 i i0 (by rw [z, show b + 18 + 4 * (1 : Int) = b + 22 by omega]; omega)
    · rw [if_neg z]
      refine ⟨b1, fun i i0 i1 => ?_⟩
      rw [(g2 i).1, (g2 i).2, if_neg (fun x => z x.1), if_neg (fun x => z x.1)]
      exact b2 i i0 i1
  · have hq : b + 22 ∈ LWL := by
      have := of_decide_eq_true (List.all_eq_true.mp (List.all_eq_true.mp lwl_b b hb) 1 (by decide))
      rw [show b + 18 + 4 * 1 = b + 22 by omega] at this; exact this
    refine ⟨h, ?_, BkF_rf w, by rw [if_neg q]; exact p⟩
    rw [ce_81, e81_0, if_pos (lfF0 w hq), e0, if_neg q, e81_39]
theorem kq_81p2 (p : PL h tp b n pl T tw hl kn) {t v : Int} (ht : -38 ≤ t ∧ t ≤ -1) (hv : I32 v) (d : Nat) : ∃ h', C d 81 [(2, b + 26), (2, t), (0, v)] h = some ((9, 0), h') ∧ BkF b h h' ∧ PL h' tp b n pl (tPut T 2 t v) tw hl kn := by
  have w := p.1.1.1
  have hb := p.1.2.2.1
  have e0 : ld h (b + 26) 3 = T 21 0 := congrFun (congrFun p.2.1 21) 0
  have cb := p.2.2.2.2.2.2.1
  have c0 := (cb 2 (by decide) (by decide)).1
  rw [show b + 18 + 4 * (2 : Int) = b + 26 by omega] at c0
  unfold tPut
  by_cases q : T 21 0 < 64
  · obtain ⟨h', a, f, e, e8, e17, cl⟩ := kq_81_2 w hb (by rw [e0]; rw [e0] at c0; exact ⟨c0.1, q⟩) ht v d
    rw [p.2.1] at e
    refine ⟨h', a, f, ?_⟩
    rw [if_pos q]
    refine PL_bk p f e (e8.trans p.2.2.1) (e17.trans p.2.2.2.1) p.2.2.2.2.2.1 (fun k' k0 k3 => ?_) (I32_kno p.2.2.2.2.2.2.2.1 (by rw [← e0]; rw [← e0] at q; exact ⟨c0.1, q⟩) t hv)
    obtain ⟨g1, g2⟩ := cl k' k0 k3
    obtain ⟨b1, b2⟩ := cb k' k0 k3
    rw [g1]
    by_cases z : k' = 2
    · rw [if_pos z]
      refine ⟨by omega, fun i i0 i1 => ?_⟩
      rw [(g2 i).1, (g2 i).2]
      by_cases y : i = ld h (b + 26) 3
      · rw [if_pos ⟨z, y⟩, if_pos ⟨z, y⟩]; exact ⟨ht, hv⟩
      · rw [if_neg (fun x => y x.2), if_neg (fun x => y x.2)]
        exact b2 i i0 (by rw [z, show b + 18 + 4 * (2 : Int) = b + 26 by omega]; omega)
    · rw [if_neg z]
      refine ⟨b1, fun i i0 i1 => ?_⟩
      rw [(g2 i).1, (g2 i).2, if_neg (fun x => z x.1), if_neg (fun x => z x.1)]
      exact b2 i i0 i1
  · have hq : b + 26 ∈ LWL := by
      have := of_decide_eq_true (List.all_eq_true.mp (List.all_eq_true.mp lwl_b b hb) 2 (by decide))
      rw [show b + 18 + 4 * 2 = b + 26 by omega] at this; exact this
    refine ⟨h, ?_, BkF_rf w, by rw [if_neg q]; exact p⟩
    rw [ce_81, e81_0, if_pos (lfF0 w hq), e0, if_neg q, e81_39]
end KP
