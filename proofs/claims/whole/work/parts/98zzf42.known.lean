/-! KN holds at the start -/
section SK
variable {s : State}
theorem tw_mem {k i : Nat} {w : Cond} (hk : k < 38) (h : (tokW k)[i]? = some w) : w ∈ NF := tokW_in hk (List.mem_of_getElem? h)
theorem sw_mem {k : Nat} {w : Cond} (hk : k < 25) (h : w ∈ strW k) : w ∈ NF := strW_in hk h
theorem gcm_tok (xs : Nat → Int32) {a : Int} (h : -38 ≤ a) (j : Int) : gcmC xs a j = (tokFd.getD (-1 - a).toNat []).getD j.toNat 0 := if_pos h
theorem gcm_str (xs : Nat → Int32) {a : Int} (h : -125 < a ∧ a ≤ -100) (j : Int) : gcmC xs a j = if j = 0 then a - 100 else 0 := by
  unfold gcmC
  rw [if_neg (by omega), if_neg (by omega), if_neg (by omega), if_neg (by omega), if_pos h]
theorem gcm_byt (xs : Nat → Int32) {a : Int} (h : -225 < a ∧ a ≤ -200) (j : Int) : gcmC xs a j = (strBy.getD (-200 - a).toNat []).getD j.toNat 0 := by
  unfold gcmC
  rw [if_neg (by omega), if_neg (by omega), if_neg (by omega), if_neg (by omega), if_neg (by omega)]
theorem getD_all {α : Type} {l : List α} {P : α → Bool} (h : l.all P = true) {d : α} (hd : P d = true) (j : Nat) : P (l.getD j d) = true := by
  rw [List.getD_eq_getElem?_getD]
  cases e : l[j]? with
  | none => exact hd
  | some x => exact List.all_eq_true.mp h x (List.mem_of_getElem? e)
theorem byt_in (i j : Nat) : 0 ≤ (strBy.getD i []).getD j 0 ∧ (strBy.getD i []).getD j 0 < 128 :=
  of_decide_eq_true (getD_all (P := fun x => decide (0 ≤ x ∧ x < 128)) (getD_all (P := fun (l : List Int) => l.all (fun x => decide (0 ≤ x ∧ x < 128))) strX.1 rfl i) (by decide) j)
theorem swm_in (j : Nat) : 0 ≤ swm.getD j 0 ∧ swm.getD j 0 < 30 := of_decide_eq_true (getD_all (P := fun x => decide (0 ≤ x ∧ x < 30)) swX (by decide) j)
theorem inr_of {x : Int} (h : -1000 ≤ x ∧ x < 1000) : InR x := by unfold InR; omega
theorem zk0 {n : Nat} {j x : Int} (h : InR x) : rok (0, n) j x := ⟨fun _ => h, fun z => absurd z (by decide : (0 : Nat) ≠ 1), fun z => absurd z (by decide : (0 : Nat) ≠ 2), fun z => absurd z (by decide : (0 : Nat) ≠ 3), fun z => absurd z (by decide : ¬ 20 ≤ 0)⟩
theorem zk4 {n : Nat} {j x : Int} (h : InR x) : rok (4, n) j x := ⟨fun _ => h, fun z => absurd z (by decide : (4 : Nat) ≠ 1), fun z => absurd z (by decide : (4 : Nat) ≠ 2), fun z => absurd z (by decide : (4 : Nat) ≠ 3), fun z => absurd z (by decide : ¬ 20 ≤ 4)⟩
theorem zk5 {n : Nat} {j x : Int} : rok (5, n) j x := ⟨fun z => absurd z (by decide : ¬ ((5 : Nat) = 0 ∨ (5 : Nat) = 2 ∨ (5 : Nat) = 3 ∨ (5 : Nat) = 4)), fun z => absurd z (by decide : (5 : Nat) ≠ 1), fun z => absurd z (by decide : (5 : Nat) ≠ 2), fun z => absurd z (by decide : (5 : Nat) ≠ 3), fun z => absurd z (by decide : ¬ 20 ≤ 5)⟩
theorem KN_start {xs : Nat → Int32} {b L : Nat} (hL : L ≤ 3072) (hts : ∀ w ∈ lw_tbl, w.before #[Value.ref b] s = true) (hF : ∀ w ∈ NF, w.before #[Value.ref b] s = true) (hX : va_X b L xs s s.heap) (hb : b < s.heap.size) :
    ∃ g : GG, gN g = s.heap.size ∧ gL g = L ∧ gcm g = gcmC xs ∧ gca g (-50) = b ∧ KN g s s.heap ∧ CXs s := by
  obtain ⟨g, g1, g2, g3, g4, g5, g6⟩ := g_start (L := L) (xs := xs) hts hF
  have hA : ∀ a : Nat, a < s.heap.size → ¬ gA g a := fun a h z => by have z : gN g ≤ a := z; omega
  have htk : ∀ a : Int, -38 ≤ a → a < 0 → (ttm (-1 - a).toNat).eval #[Value.ref b] s none [] s = some (.ref (gca g a)) := fun a h1 h2 => by
    rw [g4]; dsimp only; rw [TM_tok h1]; exact tok_ev hF (by omega)
  have hst : ∀ a : Int, -125 < a ∧ a ≤ -100 → (stm (-100 - a).toNat).eval #[Value.ref b] s none [] s = some (.ref (gca g a)) := fun a h => by
    rw [g4]; dsimp only; rw [TM_str h]; exact str_ev hF (by omega)
  have hbt : ∀ a : Int, -225 < a ∧ a ≤ -200 → (btm (-200 - a).toNat).eval #[Value.ref b] s none [] s = some (.ref (gca g a)) ∧ va_T .byte (gca g a) (strLens.getD (-200 - a).toNat 0) (fun j => fval g 0 (gcm g a j)) (gA g) s s.heap := fun a h => by
    have hi : (-200 - a).toNat < 25 := by omega
    have hlen : strLens.getD (-200 - a).toNat 0 < 200 := of_decide_eq_true (List.all_eq_true.mp strX.2 _ (List.mem_range.mpr hi))
    obtain ⟨t, e1, e2⟩ := va_Tof (args := #[Value.ref b]) (s := s) (tm := btm (-200 - a).toNat) (ty := .byte) (N := strLens.getD (-200 - a).toNat 0) (f := fun j => fval g 0 (gcm g a j)) (A := gA g) (by omega)
      (hF _ (sw_mem hi (List.mem_append_left _ (List.mem_of_getElem? (i := 2) rfl))))
      (ev_eq (hF _ (sw_mem hi (List.mem_append_left _ (List.mem_of_getElem? (i := 3) rfl)))) rfl)
      (fun j hj => ev_eq (hF _ (sw_mem hi (List.mem_append_right _ (List.mem_map_of_mem (List.mem_range.mpr hj))))) (by rw [g3, gcm_byt xs h]; rfl)) hA
    have hg : gca g a = t := by
      rw [g4]; dsimp only; rw [TM_byt h]; unfold evR; rw [e1]
    rw [hg]; exact ⟨e1, e2⟩
  have hal : atm.eval #[Value.ref b] s none [] s = some (.ref (gca g (-40))) ∧ va_T (.object "PaidFaces$Token") (gca g (-40)) 38 (fun j => fval g 2 (gcm g (-40) j)) (gA g) s s.heap := by
    obtain ⟨t, e1, e2⟩ := va_Tof (args := #[Value.ref b]) (s := s) (tm := atm) (ty := .object "PaidFaces$Token") (N := 38) (f := fun j => fval g 2 (gcm g (-40) j)) (A := gA g) (by decide)
      (hF _ (of_decide_eq_true (List.all_eq_true.mp allW_in _ (List.mem_append_left _ (List.mem_of_getElem? (i := 0) rfl)))))
      (ev_eq (hF _ (of_decide_eq_true (List.all_eq_true.mp allW_in _ (List.mem_append_left _ (List.mem_of_getElem? (i := 1) rfl))))) rfl)
      (fun j hj => ev_eq (hF _ (of_decide_eq_true (List.all_eq_true.mp allW_in _ (List.mem_append_right _ (List.mem_map_of_mem (List.mem_range.mpr hj)))))) (by
        have h1 : gcm g (-40) (j : Int) = -1 - j := by rw [g3]; rfl
        rw [h1]
        show _ = some (va_rf (rfo g (-1 - (j : Int))))
        rw [rfo_neg g (by omega)]
        have := htk (-1 - (j : Int)) (by omega) (by omega)
        rw [show (-1 - (-1 - (j : Int))).toNat = j by omega] at this
        exact this)) hA
    have hg : gca g (-40) = t := by
      rw [g4]; show evR _ _ atm = t; unfold evR; rw [e1]
    rw [hg]; exact ⟨e1, e2⟩
  have hsw : wtm.eval #[Value.ref b] s none [] s = some (.ref (gca g (-41))) ∧ va_T .int (gca g (-41)) 38 (fun j => fval g 0 (gcm g (-41) j)) (gA g) s s.heap := by
    obtain ⟨t, e1, e2⟩ := va_Tof (args := #[Value.ref b]) (s := s) (tm := wtm) (ty := .int) (N := 38) (f := fun j => fval g 0 (gcm g (-41) j)) (A := gA g) (by decide)
      (hF _ (of_decide_eq_true (List.all_eq_true.mp swW_in _ (List.mem_append_left _ (List.mem_of_getElem? (i := 0) rfl)))))
      (ev_eq (hF _ (of_decide_eq_true (List.all_eq_true.mp swW_in _ (List.mem_append_left _ (List.mem_of_getElem? (i := 1) rfl))))) rfl)
      (fun j hj => ev_eq (hF _ (of_decide_eq_true (List.all_eq_true.mp swW_in _ (List.mem_append_right _ (List.mem_map_of_mem (List.mem_range.mpr hj)))))) (by rw [g3]; rfl)) hA
    have hg : gca g (-41) = t := by
      rw [g4]; show evR _ _ wtm = t; unfold evR; rw [e1]
    rw [hg]; exact ⟨e1, e2⟩
  have h50 : gca g (-50) = b := by rw [g4]; rfl
  have hord : ∀ a : Int, -38 ≤ a → a < 0 → va_OF "java/lang/Enum" "ordinal" "I" (.int (i32 (-1 - a))) (gca g a) (gA g) s s.heap := fun a h1 h2 => by
    have hk : (-1 - a).toNat < 38 := by omega
    have := ev_eq (hF _ (tw_mem (i := 1) hk rfl)) rfl
    rw [(tok_F hk).1] at this
    rw [show (-1 - a) = (((-1 - a).toNat : Nat) : Int) by omega]
    exact vk_OFof (htk a h1 h2) this hA
  have hev : ∀ a : Int, a < 0 → (csh 0 a).isSome = true → (TM a).eval #[Value.ref b] s none [] s = some (.ref (gca g a)) := by
    intro a ha hs
    obtain ⟨⟨k, n⟩, hkn⟩ := Option.isSome_iff_exists.mp hs
    rcases csh_cases ha hkn with ⟨h1, -⟩ | ⟨rfl, -⟩ | ⟨rfl, -⟩ | ⟨rfl, -⟩ | ⟨h1, h2, -⟩ | ⟨h1, h2, -⟩
    · rw [TM_tok h1]; exact htk a h1 ha
    · rw [h50]; rfl
    · exact hal.1
    · exact hsw.1
    · rw [TM_str ⟨h1, h2⟩]; exact hst a ⟨h1, h2⟩
    · rw [TM_byt ⟨h1, h2⟩]; exact (hbt a ⟨h1, h2⟩).1
  refine ⟨g, g1, g2, g3, h50, ⟨g5, fun w hw hn => ?_, fun a k n ha hc hk => ?_, fun a k n ha hc hk => ?_, fun r hr => ?_, fun i q hi => ?_, fun a c ha hc e => ?_, fun k h1 h2 => ?_, ?_, ?_⟩, ⟨fun w hw => ?_, ?_⟩⟩
  · cases w <;> first | (exact va_Nw.of rfl (hts _ hw)) | (cases hn)
  · rcases csh_cases ha hc with ⟨h1, rfl, rfl⟩ | ⟨rfl, rfl, -⟩ | ⟨rfl, rfl, -⟩ | ⟨rfl, rfl, -⟩ | ⟨h1, h2, rfl, rfl⟩ | ⟨h1, h2, rfl, -⟩
    · have hk38 : (-1 - a).toNat < 38 := by omega
      obtain ⟨f1, f2, f3⟩ := tok_F hk38
      have hgm : ∀ j : Int, gcm g a j = (tokFd.getD (-1 - a).toNat []).getD j.toNat 0 := fun j => by rw [g3]; exact gcm_tok xs h1 j
      refine ⟨va_Oof (hF _ (tw_mem (i := 0) hk38 rfl)) (htk a h1 ha) hA, fun j hj => ?_⟩
      have hj : j < 4 := hj
      have h4 : j = 0 ∨ j = 1 ∨ j = 2 ∨ j = 3 := by omega
      rcases h4 with rfl | rfl | rfl | rfl
      · refine ⟨?_, fun z => absurd z (by decide), by decide⟩
        show va_OF "PaidFaces$Token" "spelling" "Ljava/lang/String;" (fval g (dtg "Ljava/lang/String;") (gcm g a ((0 : Nat) : Int))) (gca g a) (gA g) s s.heap
        rw [show dtg "Ljava/lang/String;" = 2 by decide]
        show va_OF "PaidFaces$Token" "spelling" "Ljava/lang/String;" (va_rf (rfo g (gcm g a ((0 : Nat) : Int)))) (gca g a) (gA g) s s.heap
        have hx : gcm g a ((0 : Nat) : Int) = (tokFd.getD (-1 - a).toNat []).getD 0 0 := hgm _
        rw [hx, rfo_neg g (by omega)]
        exact vk_OFof (htk a h1 ha) (ev_eq (hF _ (tw_mem (i := 2) hk38 rfl)) (hst _ f2.2)) hA
      · refine ⟨?_, fun _ => by rw [hgm]; show InR ((tokFd.getD (-1 - a).toNat []).getD 1 0); exact inr_of (by have := f3 1; omega), by decide⟩
        show va_OF "PaidFaces$Token" "level" "I" (.int (i32 (gcm g a ((1 : Nat) : Int)))) (gca g a) (gA g) s s.heap
        rw [hgm]
        exact vk_OFof (htk a h1 ha) (ev_eq (hF _ (tw_mem (i := 3) hk38 rfl)) rfl) hA
      · refine ⟨?_, fun _ => by rw [hgm]; show InR ((tokFd.getD (-1 - a).toNat []).getD 2 0); exact inr_of (by have := f3 2; omega), by decide⟩
        show va_OF "PaidFaces$Token" "name" "I" (.int (i32 (gcm g a ((2 : Nat) : Int)))) (gca g a) (gA g) s s.heap
        rw [hgm]
        exact vk_OFof (htk a h1 ha) (ev_eq (hF _ (tw_mem (i := 4) hk38 rfl)) rfl) hA
      · refine ⟨?_, fun _ => by rw [hgm]; show InR ((tokFd.getD (-1 - a).toNat []).getD 3 0); exact inr_of (by have := f3 3; omega), by decide⟩
        show va_OF "java/lang/Enum" "ordinal" "I" (.int (i32 (gcm g a ((3 : Nat) : Int)))) (gca g a) (gA g) s s.heap
        rw [hgm]
        exact vk_OFof (htk a h1 ha) (ev_eq (hF _ (tw_mem (i := 1) hk38 rfl)) rfl) hA
    · exact absurd hk (by decide)
    · exact absurd hk (by decide)
    · exact absurd hk (by decide)
    · have hi : (-100 - a).toNat < 25 := by omega
      refine ⟨va_Oof (hF _ (sw_mem hi (List.mem_append_left _ (List.mem_of_getElem? (i := 0) rfl)))) (hst a ⟨h1, h2⟩) hA, fun j hj => ?_⟩
      have hj : j < 2 := hj
      have h4 : j = 0 ∨ j = 1 := by omega
      rcases h4 with rfl | rfl
      · refine ⟨?_, fun z => absurd z (by decide), by decide⟩
        show va_OF "java/lang/String" "value" "[B" (fval g (dtg "[B") (gcm g a ((0 : Nat) : Int))) (gca g a) (gA g) s s.heap
        rw [show dtg "[B" = 2 by decide]
        show va_OF "java/lang/String" "value" "[B" (va_rf (rfo g (gcm g a ((0 : Nat) : Int)))) (gca g a) (gA g) s s.heap
        have hx : gcm g a ((0 : Nat) : Int) = a - 100 := by rw [g3, gcm_str xs ⟨h1, h2⟩]; rfl
        rw [hx, rfo_neg g (by omega)]
        have := (hbt (a - 100) ⟨by omega, by omega⟩).1
        rw [show (-200 - (a - 100)).toNat = (-100 - a).toNat by omega] at this
        exact vk_OFof (hst a ⟨h1, h2⟩) this hA
      · have hx : gcm g a ((1 : Nat) : Int) = 0 := by rw [g3, gcm_str xs ⟨h1, h2⟩]; rfl
        refine ⟨?_, fun _ => by rw [hx]; exact inr_of (by omega), by decide⟩
        show va_OF "java/lang/String" "coder" "B" (.int (i32 (gcm g a ((1 : Nat) : Int)))) (gca g a) (gA g) s s.heap
        rw [hx]
        exact vk_OFof (hst a ⟨h1, h2⟩) (ev_eq (hF _ (sw_mem hi (List.mem_append_left _ (List.mem_of_getElem? (i := 1) rfl)))) rfl) hA
    · exact absurd hk (by decide)
  · rcases csh_cases ha hc with ⟨h1, rfl, rfl⟩ | ⟨rfl, rfl, rfl⟩ | ⟨rfl, rfl, rfl⟩ | ⟨rfl, rfl, rfl⟩ | ⟨h1, h2, rfl, rfl⟩ | ⟨h1, h2, rfl, rfl⟩
    · exact absurd hk (by decide)
    · obtain ⟨scr, x1, x2, x3, x4, x5⟩ := hX
      have hgm : ∀ j : Int, gcm g (-50) j = (xs j.toNat).toInt := fun j => by rw [g3]; rfl
      rw [g2, h50]
      refine ⟨by decide, ⟨scr, x1, x2, x3, by omega, by rw [x4], fun j hj => ?_, hA b hb⟩, fun j h1 h2 => ?_, by omega⟩
      · rw [x5 j hj]
        show some (Value.int (xs j)) = some (Value.int (i32 (gcm g (-50) (j : Int))))
        rw [hgm, i32_of]; rfl
      · rw [hgm]; exact zk0 (i32_in _)
    · exact ⟨by decide, hal.2, fun j _ _ => zk5, by decide⟩
    · refine ⟨by decide, hsw.2, fun j _ _ => ?_, by decide⟩
      have hgm : gcm g (-41) j = swm.getD j.toNat 0 := by rw [g3]; rfl
      rw [hgm]
      exact zk0 (inr_of (by have := swm_in j.toNat; omega))
    · exact absurd hk (by decide)
    · refine ⟨by decide, (hbt a ⟨h1, h2⟩).2, fun j _ _ => ?_, ?_⟩
      · rw [g3, gcm_byt xs ⟨h1, h2⟩]
        exact zk4 (inr_of (by have := byt_in (-200 - a).toNat j.toNat; omega))
      · have hi : (-200 - a).toNat < 25 := by omega
        have hlen : strLens.getD (-200 - a).toNat 0 < 200 := of_decide_eq_true (List.all_eq_true.mp strX.2 _ (List.mem_range.mpr hi))
        omega
  · have hw := List.all_eq_true.mp srW_in r hr
    rw [Bool.and_eq_true] at hw
    have hl := hts _ (of_decide_eq_true hw.1)
    have hi := hts _ (of_decide_eq_true hw.2)
    have hx := List.all_eq_true.mp srX r hr
    simp only [Bool.or_eq_true, Bool.and_eq_true, decide_eq_true_eq] at hx
    rcases hx with (⟨⟨e1, e2⟩, e3⟩ | e1) | e1
    · rw [e1]
      show va_Z r.1 r.2.1 r.2.2.1 (va_rf (rfo g r.2.2.2.2)) (gA g) s s.heap
      rw [rfo_neg g e3.1]
      have := hev _ e3.1 e3.2
      rw [e2] at this
      exact va_Zof hl hi this hA
    · subst e1
      exact va_Zof hl hi (ev_eq (hF _ (of_decide_eq_true (List.all_eq_true.mp othW_in _ (List.mem_of_getElem? (i := 0) rfl)))) rfl) hA
    · subst e1
      exact va_Zof hl hi g6 hA
  · have hi25 : i < 25 := by rw [← STRs_len]; exact (List.getElem?_eq_some_iff.mp hi).1
    have hs := hst (-100 - (i : Int)) (by omega)
    rw [show (-100 - (-100 - (i : Int))).toNat = i by omega] at hs
    unfold stm at hs
    rw [List.getD_eq_getElem?_getD, hi] at hs
    exact vk_R.of (hts _ (of_decide_eq_true (List.all_eq_true.mp strR_in _ (List.mem_of_getElem? hi)))) hs
  · have ha : -38 ≤ a ∧ a ≤ -1 := of_decide_eq_true ha
    have hc : -38 ≤ c ∧ c ≤ -1 := of_decide_eq_true hc
    obtain ⟨c1, k1, i1, f1, cell1, p1, p2, p3, p4, p5, -⟩ := hord a ha.1 (by omega)
    obtain ⟨c2, k2, i2, f2, cell2, q1, q2, q3, q4, q5, -⟩ := hord c hc.1 (by omega)
    rw [p1] at q1
    cases q1
    rw [e, q3] at p3
    cases p3
    rw [p5] at q5
    have h1 : i32 (-1 - a) = i32 (-1 - c) := by
      have := Option.some.inj q5
      exact Value.int.inj this
    have h2 := i32_T (x := -1 - a) (by unfold InR; omega)
    rw [h1, i32_T (by unfold InR; omega)] at h2
    omega
  · have h4 : k = 5 ∨ k = 6 ∨ k = 7 ∨ k = 8 := by omega
    have ao : ∀ ty, (Cond.arrayOver ty).before #[Value.ref b] s = true → (Cond.arrayOver ty).before #[] s = true := fun ty h2 => by
      unfold Cond.before Cond.holds at h2 ⊢
      simp only [Cond.value] at h2 ⊢
      exact h2
    rcases h4 with rfl | rfl | rfl | rfl
    · exact ao _ (hts _ AO_5)
    · exact ao _ (hts _ AO_6)
    · exact ao _ (hts _ AO_7)
    · exact ao _ (hts _ AO_8)
  · exact vx_Zqof (hts _ (of_decide_eq_true (List.all_eq_true.mp thr_in _ (List.mem_of_getElem? (i := 0) rfl)))) (hts _ (of_decide_eq_true (List.all_eq_true.mp thr_in _ (List.mem_of_getElem? (i := 2) rfl)))) (hF _ (of_decide_eq_true (List.all_eq_true.mp othW_in _ (List.mem_of_getElem? (i := 2) rfl)))) hA
  · exact vx_Zqof (hts _ (of_decide_eq_true (List.all_eq_true.mp thr_in _ (List.mem_of_getElem? (i := 1) rfl)))) (hts _ (of_decide_eq_true (List.all_eq_true.mp thr_in _ (List.mem_of_getElem? (i := 2) rfl)))) (hF _ (of_decide_eq_true (List.all_eq_true.mp othW_in _ (List.mem_of_getElem? (i := 3) rfl)))) hA
  · exact va_tabs (exF_ok w hw).2 rfl (hts w (of_decide_eq_true (List.all_eq_true.mp exF_in w hw)))
  · exact va_Nc.of (hF _ (of_decide_eq_true (List.all_eq_true.mp othW_in _ (List.mem_of_getElem? (i := 4) rfl))))
end SK
