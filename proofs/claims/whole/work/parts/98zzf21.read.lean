/-! what is known of the start, and reading -/
def atg (k : Nat) : Nat := if k = 1 then 1 else if 5 ≤ k then 2 else 0
def KN (g : GG) (U : State) (H : Heap) : Prop :=
  va_K (gD g) CL (TYS g) U ∧ (∀ w ∈ lw_tbl, isNest w = true → va_Nw w U) ∧
  (∀ (a : Int) (k n : Nat), a < 0 → csh (gL g) a = some (k, n) → 20 ≤ k → va_O (cnm k) (gca g a) (gA g) U H ∧ ∀ j : Nat, j < nfl k → va_OF (fI k j).1 (fI k j).2.1 (fds k j) (fval g (dtg (fds k j)) (gcm g a j)) (gca g a) (gA g) U H ∧ (dtg (fds k j) = 0 → InR (gcm g a j)) ∧ dtg (fds k j) ≠ 1) ∧
  (∀ (a : Int) (k n : Nat), a < 0 → csh (gL g) a = some (k, n) → k < 20 → k < 9 ∧ va_T (tyK k) (gca g a) n (fun j => fval g (atg k) (gcm g a j)) (gA g) U H ∧ (∀ j : Int, 0 ≤ j → j < n → rok (k, n) j (gcm g a j)) ∧ n ≤ 100000) ∧
  (∀ r ∈ SRl, va_Z r.1 r.2.1 r.2.2.1 (fval g r.2.2.2.1 r.2.2.2.2) (gA g) U H) ∧
  (∀ (i : Nat) (q : String × Nat × String), STRs[i]? = some q → vk_R q.1 q.2.1 q.2.2 (gca g (-100 - (i : Int))) U) ∧
  (∀ a b : Int, isTok a = true → isTok b = true → gca g a = gca g b → a = b) ∧
  (∀ k, 5 ≤ k → k < 9 → (Cond.arrayOver (tyK k)).before #[] U = true) ∧
  vx_Zq Bundle.tN "UNASSIGNED_STACK" Bundle.steD (gA g) U H ∧ vx_Zq Bundle.tN "SUPPRESSED_SENTINEL" Bundle.listD (gA g) U H
theorem lay_good {C : String} {T : u_T} {N : Nat} {w : Cond} (h : w ∈ u_ws C T N) : goodWord w = true := by
  unfold u_ws at h
  obtain ⟨k, -, rfl⟩ := List.mem_map.mp h
  unfold u_lay
  split <;> rfl
theorem vp_cellA (g : GG) {k n : Nat} (hk : k < 9) (f : Int → Int) : vp_cell (gTY g k) (n, cont g k f) = arrV (gTY g k) n (fun j => fval g (atg k) (f (j : Int))) := by
  have : k = 0 ∨ k = 1 ∨ k = 2 ∨ k = 3 ∨ k = 4 ∨ k = 5 ∨ k = 6 ∨ k = 7 ∨ k = 8 := by omega
  rcases this with rfl | rfl | rfl | rfl | rfl | rfl | rfl | rfl | rfl <;> rfl
theorem entA (g : GG) {k n : Nat} (hk : k < 9) (f : Int → Int) : ent g (k, n) f = .inl (gTY g k, n, cont g k f) := by
  unfold ent; rw [if_pos (by show k < 20; omega)]
section RD
variable {s : State} {H : Heap} {locs : List Loc} {g : GG} {h : Hp}
/-- an array, new or a constant -/
theorem rd_arr (hK : KN g s s.heap) (hS : va_S (gA g) s.heap H locs) (hR : RSl g h H) {a : Int} {k : Nat} (hk : k < 9) (e : okF h a k = true) :
    ∃ (ra n : Nat) (cell : Cell), va_rf (rfo g a) = .ref ra ∧ H[ra]? = some cell ∧ s.isArrayOf cell (tyK k) ∧ cell.vm ≠ .unknown ∧ shp h a = some (k, n) ∧ len h a = n ∧ n ≤ cell.slots.size ∧ cell.slots.size.toInt32 = Int32.ofNat n ∧ (∀ j : Nat, j < n → cell.slots[j]? = some (fval g (atg k) (ld h a j))) ∧ (∀ j : Int, 0 ≤ j → j < n → rok (k, n) j (ld h a j)) ∧ (0 < a → cell = arrV (gTY g k) n (fun j => fval g (atg k) (ld h a j)) ∧ ra = gN g + (a - 1).toNat) := by
  obtain ⟨n, hs, hl, h0⟩ := okF_sh e
  obtain ⟨r1, r2, r3, r4, r5, r6, r7, r8⟩ := hR
  by_cases ha : 0 < a
  · obtain ⟨h1, h2⟩ := shp_pos ha hs
    have hc := r1 _ _ (wl_at g h1)
    rw [entA g hk] at hc
    have hc : H[gN g + (a - 1).toNat]? = some (vp_cell (gTY g k) (n, cont g k (h.1 ((((a - 1).toNat : Nat) : Int) + 1)))) := hc
    rw [vp_cellA g hk, h2] at hc
    refine ⟨gN g + (a - 1).toNat, n, _, by rw [rfo_pos g ha] <;> rfl, hc, (hK.1.2 k _ (TYS_at g hk)).1 n _, (fun q => by cases q), hs, hl, by rw [arrV_size] <;> exact Nat.le_refl _, by rw [arrV_size] <;> rfl, fun j hj => arrV_read _ _ hj, fun j hj _ => ?_, fun _ => ⟨rfl, rfl⟩⟩
    have := r5 _ _ h1 j hj
    rw [h2] at this
    exact this
  · have hn : a < 0 := by omega
    have hs' : csh (gL g) a = some (k, n) := by
      unfold shp at hs
      rw [if_neg ha, if_neg h0, r8] at hs
      exact hs
    obtain ⟨-, hT, hr, -⟩ := hK.2.2.2.1 a k n hn hs' (by omega)
    obtain ⟨cell, c1, c2, c3, c4, c5, c6, c7⟩ := va_T.kept hT hS.2.1
    have hm : ∀ j : Int, ld h a j = gcm g a j := fun j => by show h.1 a j = _; rw [r7 a hn]
    exact ⟨gca g a, n, cell, by rw [rfo_neg g hn]; rfl, c1, c2, c3, hs, hl, c4, c5, fun j hj => by rw [c6 j hj, hm], fun j h1 h2 => by rw [hm]; exact hr j h1 h2, fun q => absurd q ha⟩
theorem CL_at {k : Nat} (h1 : 20 ≤ k) (h2 : k < 32) : ∃ q : vw_C, CL[k - 20]? = some q ∧ q.1 = cnm k ∧ q.2.2 = nfl k ∧ (∀ w ∈ u_ws q.1 q.2.1 q.2.2, w ∈ lw_tbl) ∧ (∀ j, q.2.1 j = fI k j) ∧ (Cond.instantiable q.1 q.2.2 ∈ lw_tbl ∧ Cond.initialized q.1 ∈ lw_tbl) ∧ (∃ ty : Nat → FieldType, (∀ j, j < q.2.2 → parseFieldDescriptor (q.2.1 j).2.2.1 = some (ty j)) ∧ ∀ j, j < q.2.2 → tyd (ty j) (q.2.1 j).2.2.1 = true) ∧ (∀ a, a < q.2.2 → ∀ b, b < q.2.2 → a ≠ b → (q.2.1 a).2.1 ≠ (q.2.1 b).2.1) ∧ (∀ j, j < q.2.2 → (q.2.1 j).1 = q.1) := by
  have : k = 20 ∨ k = 21 ∨ k = 22 ∨ k = 23 ∨ k = 24 ∨ k = 25 ∨ k = 26 ∨ k = 27 ∨ k = 28 ∨ k = 29 ∨ k = 30 ∨ k = 31 := by omega
  rcases this with rfl | rfl | rfl | rfl | rfl | rfl | rfl | rfl | rfl | rfl | rfl | rfl
  · exact ⟨_, rfl, rfl, rfl, lay_20, fun _ => rfl, ins_20, ⟨ty_20, ok_20.2.1, tyd_20⟩, ok_20.1, ok_20.2.2⟩
  · exact ⟨_, rfl, rfl, rfl, lay_21, fun _ => rfl, ins_21, ⟨ty_21, ok_21.2.1, tyd_21⟩, ok_21.1, ok_21.2.2⟩
  · exact ⟨_, rfl, rfl, rfl, lay_22, fun _ => rfl, ins_22, ⟨ty_22, ok_22.2.1, tyd_22⟩, ok_22.1, ok_22.2.2⟩
  · exact ⟨_, rfl, rfl, rfl, lay_23, fun _ => rfl, ins_23, ⟨ty_23, ok_23.2.1, tyd_23⟩, ok_23.1, ok_23.2.2⟩
  · exact ⟨_, rfl, rfl, rfl, lay_24, fun _ => rfl, ins_24, ⟨ty_24, ok_24.2.1, tyd_24⟩, ok_24.1, ok_24.2.2⟩
  · exact ⟨_, rfl, rfl, rfl, lay_25, fun _ => rfl, ins_25, ⟨ty_25, ok_25.2.1, tyd_25⟩, ok_25.1, ok_25.2.2⟩
  · exact ⟨_, rfl, rfl, rfl, lay_26, fun _ => rfl, ins_26, ⟨ty_26, ok_26.2.1, tyd_26⟩, ok_26.1, ok_26.2.2⟩
  · exact ⟨_, rfl, rfl, rfl, lay_27, fun _ => rfl, ins_27, ⟨ty_27, ok_27.2.1, tyd_27⟩, ok_27.1, ok_27.2.2⟩
  · exact ⟨_, rfl, rfl, rfl, lay_28, fun _ => rfl, ins_28, ⟨ty_28, ok_28.2.1, tyd_28⟩, ok_28.1, ok_28.2.2⟩
  · exact ⟨_, rfl, rfl, rfl, lay_29, fun _ => rfl, ins_29, ⟨ty_29, ok_29.2.1, tyd_29⟩, ok_29.1, ok_29.2.2⟩
  · exact ⟨_, rfl, rfl, rfl, lay_30, fun _ => rfl, ins_30, ⟨ty_30, ok_30.2.1, tyd_30⟩, ok_30.1, ok_30.2.2⟩
  · exact ⟨_, rfl, rfl, rfl, lay_31, fun _ => rfl, ins_31, ⟨ty_31, ok_31.2.1, tyd_31⟩, ok_31.1, ok_31.2.2⟩
/-- an array isn't long -/
theorem len_lt (hK : KN g s s.heap) (hR : RSl g h H) {a : Int} {k : Nat} (hk : k < 9) (e : okF h a k = true) : len h a < 2147483648 := by
  obtain ⟨n, hs, hl, h0⟩ := okF_sh e
  obtain ⟨r1, r2, r3, r4, r5, r6, r7, r8⟩ := hR
  rw [hl]
  by_cases ha : 0 < a
  · obtain ⟨h1, h2⟩ := shp_pos ha hs
    rcases r4 _ (List.mem_of_getElem? h1) with q | q
    · have : n ≤ 100000 := q.2
      omega
    · have : 20 ≤ k := q.1
      omega
  · have hn : a < 0 := by omega
    have hs' : csh (gL g) a = some (k, n) := by
      unfold shp at hs
      rw [if_neg ha, if_neg h0, r8] at hs
      exact hs
    obtain ⟨-, -, -, hb⟩ := hK.2.2.2.1 a k n hn hs' (by omega)
    omega
/-- an object's field, new or a constant's -/
theorem rd_obj {args : Array Value} (hts : ∀ w ∈ lw_tbl, goodWord w = true → w.before args s = true) (hK : KN g s s.heap) (hS : va_S (gA g) s.heap H locs) (hR : RSl g h H) {a : Int} {k j : Nat} (hk : 20 ≤ k) (hj : j < nfl k) (e : okF h a k = true) :
    ∃ (ra : Nat) (cf : ClassId) (kf : Class) (fi : Nat) (f : Field) (cell : Cell), va_rf (rfo g a) = .ref ra ∧ s.fieldFound? (fI k j).1 (fI k j).2.1 (fds k j) = some (cf, kf, fi, f) ∧ f.isStatic = false ∧ H[ra]? = some cell ∧ cell.vm ≠ .unknown ∧ cell.slots[f.slot]? = some (fval g (dtg (fds k j)) (ld h a j)) ∧ vok (dtg (fds k j), ld h a j) := by
  obtain ⟨n, hs, hl, h0⟩ := okF_sh e
  obtain ⟨r1, r2, r3, r4, r5, r6, r7, r8⟩ := hR
  have hd3 : dtg (fds k j) = 0 ∨ dtg (fds k j) = 1 ∨ dtg (fds k j) = 2 ∨ dtg (fds k j) = 8 := by
    unfold dtg; repeat' split
    all_goals simp
  by_cases ha : 0 < a
  · obtain ⟨h1, h2⟩ := shp_pos ha hs
    have hc := r1 _ _ (wl_at g h1)
    have hsh : shok (k, n) := r4 _ (List.mem_of_getElem? h1)
    have hkn : k < 32 ∧ n = nfl k := by
      rcases hsh with q | q
      · have : k < 9 := q.1; omega
      · exact q.2
    have he : ent g (k, n) (h.1 ((((a - 1).toNat : Nat) : Int) + 1)) = .inr (k - 20, (List.range n).map (fun j => fval g (dtg (fds k j)) (h.1 ((((a - 1).toNat : Nat) : Int) + 1) (j : Int)))) := by
      unfold ent; rw [if_neg (by show ¬ k < 20; omega)]
    rw [he] at hc
    obtain ⟨r, q1, cell, c1, c2, c3, c4⟩ := hc
    obtain ⟨q, p1, p2, p3, p4, p5, p6, ⟨ty, p7, -⟩, p8, p9⟩ := CL_at hk hkn.1
    have hr : r = q := Option.some.inj (q1.symm.trans p1)
    subst hr
    obtain ⟨hSl, hfc, kC, hkC, hkind⟩ := hK.1.1 (k - 20) _ p1
    have hj2 : j < r.2.2 := by rw [p3]; exact hj
    obtain ⟨cf, kf, fi, f, hi, hsl⟩ := hSl j hj2
    have hst := (u_facts hfc hkC (u_lays (fun w hw => hts w (p4 w hw) (lay_good hw)) (fun w hw => hw) hj2) hi).1
    rw [p5 j] at hi
    refine ⟨gN g + (a - 1).toNat, cf, kf, fi, f, cell, by rw [rfo_pos g ha]; rfl, hi, hst, c1, (by rw [c3]; exact (fun z => by cases z)), ?_, ?_⟩
    · rw [hsl, c4 j hj2]
      simp only [vp_V, List.getD_eq_getElem?_getD, List.getElem?_map, List.getElem?_range (show j < n by rw [hkn.2]; exact hj), Option.map_some, Option.getD_some]
      rw [h2]; rfl
    · have h3 := r5 _ _ h1 (j : Int) (by omega)
      rw [h2] at h3
      obtain ⟨-, -, -, -, h3⟩ := h3
      have h4 := h3 hk
      rw [show ((j : Int)).toNat = j from Int.toNat_natCast j] at h4
      exact ⟨h4.1, h4.2.1, hd3⟩
  · have hn : a < 0 := by omega
    have hs' : csh (gL g) a = some (k, n) := by
      unfold shp at hs
      rw [if_neg ha, if_neg h0, r8] at hs
      exact hs
    obtain ⟨hO, hF⟩ := hK.2.2.1 a k n hn hs' hk
    obtain ⟨hF, hr1, hr2⟩ := hF j hj
    obtain ⟨cf, kf, fi, f, cell, c1, c2, c3, c4, c5, c6⟩ := va_OF.kept hF hS.2.1
    have hm : ld h a j = gcm g a j := by show h.1 a j = _; rw [r7 a hn]
    rw [hm]
    exact ⟨gca g a, cf, kf, fi, f, cell, by rw [rfo_neg g hn]; rfl, c1, c2, c3, c4, c5, ⟨hr1, fun z => absurd z hr2, hd3⟩⟩
/-- an object, new or a constant, and its class -/
theorem rd_recv (hK : KN g s s.heap) (hS : va_S (gA g) s.heap H locs) (hR : RSl g h H) {a : Int} {k : Nat} (hk : 20 ≤ k) (e : okF h a k = true) :
    ∃ (ra : Nat) (cell : Cell), va_rf (rfo g a) = .ref ra ∧ H[ra]? = some cell ∧ cell.vm.isStatics = false ∧ s.vm.findClass (cnm k) = some cell.cls := by
  obtain ⟨n, hs, hl, h0⟩ := okF_sh e
  obtain ⟨r1, r2, r3, r4, r5, r6, r7, r8⟩ := hR
  by_cases ha : 0 < a
  · obtain ⟨h1, h2⟩ := shp_pos ha hs
    have hc := r1 _ _ (wl_at g h1)
    have hsh : shok (k, n) := r4 _ (List.mem_of_getElem? h1)
    have hkn : k < 32 ∧ n = nfl k := by
      rcases hsh with q | q
      · have : k < 9 := q.1; omega
      · exact q.2
    have he : ent g (k, n) (h.1 ((((a - 1).toNat : Nat) : Int) + 1)) = .inr (k - 20, (List.range n).map (fun j => fval g (dtg (fds k j)) (h.1 ((((a - 1).toNat : Nat) : Int) + 1) (j : Int)))) := by
      unfold ent; rw [if_neg (by show ¬ k < 20; omega)]
    rw [he] at hc
    obtain ⟨r, q1, cell, c1, c2, c3, c4⟩ := hc
    obtain ⟨q, p1, p2, p3, p4, p5, p6, ⟨ty, p7, -⟩, p8, p9⟩ := CL_at hk hkn.1
    have hr : r = q := Option.some.inj (q1.symm.trans p1)
    subst hr
    obtain ⟨hSl, hfc, -⟩ := hK.1.1 (k - 20) _ p1
    exact ⟨gN g + (a - 1).toNat, cell, by rw [rfo_pos g ha] <;> rfl, c1, by rw [c3] <;> rfl, by rw [← p2, c2]; exact hfc⟩
  · have hn : a < 0 := by omega
    have hs' : csh (gL g) a = some (k, n) := by
      unfold shp at hs
      rw [if_neg ha, if_neg h0, r8] at hs
      exact hs
    obtain ⟨hO, -⟩ := hK.2.2.1 a k n hn hs' hk
    obtain ⟨cell, c1, c2, c3, -⟩ := va_O.kept hO hS.2.1
    exact ⟨gca g a, cell, by rw [rfo_neg g hn] <;> rfl, c1, c2, c3⟩
end RD
