/-! copies, returns, calls -/
/-- the relation behind a write of one row -/
theorem RS_upd (g : GG) {h h' : Hp} {a : Int} {sh : Nat × Nat} {H H1 : Heap} (hR : RSl g h H) (ha : 0 < a) (hs : shp h a = some sh) (h2 : h'.2 = h.2) (hne : ∀ b, b ≠ a → h'.1 b = h.1 b) (hv : ∀ j : Int, 0 ≤ j → rok sh j (h'.1 a j)) (hz : H1.size = H.size)
    (he : va_at (gD g) CL (gN g + (a - 1).toNat, ent g sh (h'.1 a)) H1) (oq : ∀ q, q ≠ gN g + (a - 1).toNat → H1[q]? = H[q]?) : RSl g h' H1 := by
  obtain ⟨r1, r2, r3, r4, r5, r6, r7, r8⟩ := hR
  obtain ⟨h1, h2'⟩ := shp_pos ha hs
  have hl := (List.getElem?_eq_some_iff.mp h1).1
  refine ⟨fun i q hq => ?_, fun z => by rw [hz, h2]; rw [h2] at z; exact r2 z, by rw [hz, h2]; exact r3, by rw [h2]; exact r4, ?_, ?_, ?_, by rw [h2]; exact r8⟩
  · have hi : i < h'.2.1.length := by
      have := (List.getElem?_eq_some_iff.mp hq).1
      rw [wl_len] at this; exact this
    obtain ⟨sk, hsk⟩ : ∃ sk, h'.2.1[i]? = some sk := ⟨_, List.getElem?_eq_getElem hi⟩
    rw [wl_at g hsk] at hq
    cases hq
    rw [h2] at hsk
    by_cases hia : i = (a - 1).toNat
    · subst hia
      rw [h1] at hsk; cases hsk
      rw [h2']; exact he
    · rw [hne _ (by omega)]
      exact (r1 i _ (wl_at g hsk)).kept (oq _ (by show gN g + i ≠ _; omega))
  · intro i sk hk j hj
    rw [h2] at hk
    by_cases hia : i = (a - 1).toNat
    · subst hia
      rw [h1] at hk; cases hk
      rw [h2']; exact hv j hj
    · rw [hne _ (by omega)]
      exact r5 i sk hk j hj
  · intro b j hb
    rw [h2] at hb
    rw [hne b (by omega)]
    exact r6 b j hb
  · intro b hb
    rw [hne b (by omega)]
    exact r7 b hb
section ST8
variable {p : Program} {l : Launch} {e : Env} {R : Room} {s : State} {m : MethodId} {args : Array Value} {below : List Frame} {meth : Method} {c : Code} {Q : State → Prop} {g : GG} {y c0 s0 pc : Nat} {ls r : List MV} {h : Hp}
theorem getE_ne {H : Heap} {a q : Nat} {x : Cell} (hq : q ≠ a) : (H.setIfInBounds a x)[q]? = H[q]? := by simp [Array.getElem?_setIfInBounds, Ne.symm hq]
theorem getE_eq {H : Heap} {a : Nat} {x : Cell} (hl : a < H.size) : (H.setIfInBounds a x)[a]? = some x := by simp [Array.getElem?_setIfInBounds, hl]
theorem stretch_eq {c1 c2 : Cell} {sp n : Nat} (hh : ∀ i, i < n → c1.slots[sp + i]? = c2.slots[sp + i]?) : c1.stretch sp n = c2.stretch sp n := by
  unfold Cell.stretch
  apply List.map_congr_left
  intro i hi
  rw [Array.getD_eq_getD_getElem?, Array.getD_eq_getD_getElem?, hh i (List.mem_range.mp hi)]
set_option maxHeartbeats 1000000 in
theorem s_copy (C : Ctx p l s m args meth c g y) {i : Nat} {sa sp ta tp n : Int} (hi : (yO y, i, 0) ∈ CP) (ho1 : okF h sa 0 = true) (ho2 : okW h ta 0 = true) (hb0 : 0 ≤ n ∧ 0 ≤ sp ∧ 0 ≤ tp ∧ sp + n ≤ len h sa ∧ tp + n ≤ len h ta) (hr8 : rsum r ≤ 8) (hRf : 1 ≤ R.frames ∧ 80 ≤ R.locals) (hdg : decode (yB y) pc = .ok (.invokestatic i, 3)) (kk : G2 p l e R s m args below meth c Q g y c0 s0 (pc + 3) ls r (cpy h sa sp ta tp n)) : G2 p l e R s m args below meth c Q g y c0 s0 pc ls ((0, n) :: (0, tp) :: (2, ta) :: (0, sp) :: (2, sa) :: r) h := by
  intro lsR H locs hR hl hv hS hc hs
  obtain ⟨hx, hb, hml, hown, hts, hKN, -⟩ := C
  have w1 : Cond.methodLink (CN (yO y)) i arraycopyName ∈ lw_tbl := CP_ok _ hi
  obtain ⟨ht0, ho2⟩ := okW_sh ho2
  obtain ⟨rs, n0, cs, e1, e2, e3, e4, e4', e5, e6, e6', e7, e8, -⟩ := rd_arr hKN hS hR (by decide) ho1
  obtain ⟨rt, n1, ct, d1, d2, d3, d4, d4', d5, d6, d6', d7, d8, d9⟩ := rd_arr hKN hS hR (by decide) ho2
  obtain ⟨rfl, rfl⟩ := d9 ht0
  rw [e5, d5] at hb0
  have hnR := in0 hv
  have htR := in0 (vtl hv)
  have hsR := in0 (vtl (vtl (vtl hv)))
  have hcl : ∀ {x : Int}, InR x → (i32 x).toNatClampNeg = x.toNat := fun {x} hx => by show (i32 x).toInt.toNat = _; rw [i32_T hx]
  have hnn : ∀ {x : Int}, InR x → 0 ≤ x → ¬ i32 x < 0 := fun {x} hx h0 q => by have := (n_lt hx (show InR 0 by unfold InR; omega)).mp q; omega
  obtain ⟨o1, k0, hk0, cm0, hkk0⟩ := e3
  obtain ⟨o2, k1, hk1, cm1, hkk1⟩ := d3
  have hcsz : cs.slots.size < 2147483648 → (cs.slots.size : Int) = cs.slots.size := fun _ => rfl
  intro T hT X
  have hsrc : ∀ j : Nat, j < n.toNat → cs.slots[sp.toNat + j]? = some (.int (i32 (ld h sa (sp + j)))) := fun j hj => by
    have := e7 (sp.toNat + j) (by omega)
    rw [this]
    show some (Value.int (i32 (ld h sa ((sp.toNat + j : Nat) : Int)))) = _
    congr 4
    omega
  obtain ⟨vm', X', step⟩ := X.arraycopy (rest := r.map (cv g)) hx hown (hts _ w1 rfl) (hts _ w_an rfl) (hts _ w_as rfl) (hts _ w_ai rfl) (src := rs) (dst := gN g + (ta - 1).toNat) (cs := cs) (cd := arrV (gTY g 0) n1 (fun j => fval g (atg 0) (ld h ta j))) (srcPos := i32 sp) (destPos := i32 tp) (n := i32 n) (by rw [hT]; exact e2) (by rw [hT]; exact d2)
    o1 o2 e4 d4 hk0 hk1 hkk0 hkk1 (by decide) (hnn hsR hb0.2.1) (hnn htR hb0.2.2.1) (hnn hnR hb0.1)
    (by rw [i32_T hsR, i32_T hnR]; omega)
    (by rw [i32_T htR, i32_T hnR, arrV_size]; omega)
    (fun vm₁ _ j hj => by
      rw [hcl hnR] at hj
      have e : cs.slots.getD ((i32 sp).toNatClampNeg + j) .null = .int (i32 (ld h sa (sp + j))) := by
        rw [Array.getD_eq_getD_getElem?, hcl hsR, hsrc j hj]; rfl
      rw [e]
      exact ⟨rfl, trivial⟩)
    (g := F0 m pc lsR (.int (i32 n) :: .int (i32 tp) :: .ref (gN g + (ta - 1).toNat) :: .int (i32 sp) :: .ref rs :: r.map (cv g))) rfl (by rw [hml]; exact hl.1.1) rfl (by rw [hb]; exact hdg) hRf.1 (by
      have h1 := lv_room (m := m) (pc := pc) (ls := lsR) (rest := (.int (i32 n) :: .int (i32 tp) :: .ref (gN g + (ta - 1).toNat) :: .int (i32 sp) :: .ref rs :: r.map (cv g))) (st := r.map (cv g)) (by rw [cat_sum]; exact hr8)
      have h2 : nativeFrameWords "java/lang/System" "arraycopy" 5 + 11 ≤ 60 := by decide
      omega)
  have ecp : copied cs (arrV (gTY g 0) n1 (fun j => fval g (atg 0) (ld h ta j))) (i32 sp) (i32 tp) (i32 n) = arrV (gTY g 0) n1 (fun j => fval g (atg 0) ((cpy h sa sp ta tp n).1 ta j)) := by
    have h1 := va_copied (fun z : Int32 => Value.int z) (gTY g 0) (gTY g 0) (n0 := n0) (n1 := n1) (sp := sp.toNat) (dp := tp.toNat) (n := n.toNat) (fun j => i32 (ld h sa j)) (fun j => i32 (ld h ta j)) (by omega)
    show (arrV (gTY g 0) n1 _).storeRun (i32 tp).toNatClampNeg (cs.stretch (i32 sp).toNatClampNeg (i32 n).toNatClampNeg) = _
    rw [hcl hsR, hcl htR, hcl hnR]
    rw [stretch_eq (c2 := arrV (gTY g 0) n0 (fun j => Value.int (i32 (ld h sa j)))) (fun j hj => by
      rw [hsrc j hj, arrV_read _ _ (by omega)]
      congr 4
      omega)]
    refine h1.trans ?_
    congr 1
    funext j
    show Value.int (va_cpy (fun j => i32 (ld h sa j)) (fun j => i32 (ld h ta j)) sp.toNat tp.toNat n.toNat j) = Value.int (i32 (if ta = ta ∧ tp ≤ (j : Int) ∧ (j : Int) < tp + n then h.1 sa (sp + ((j : Int) - tp)) else h.1 ta j))
    unfold va_cpy
    by_cases hj : tp.toNat ≤ j ∧ j < tp.toNat + n.toNat
    · rw [if_pos hj, if_pos (by refine ⟨rfl, ?_, ?_⟩ <;> omega)]
      show Value.int (i32 (h.1 sa ((sp.toNat + (j - tp.toNat) : Nat) : Int))) = _
      rw [show ((sp.toNat + (j - tp.toNat) : Nat) : Int) = sp + ((j : Int) - tp) by omega]
    · rw [if_neg hj, if_neg (by intro z; omega)]; rfl
  rw [ecp] at X' step
  have hl1 : gN g + (ta - 1).toNat < H.size := (Array.getElem?_eq_some_iff.mp d2).1
  generalize hH1 : H.setIfInBounds (gN g + (ta - 1).toNat) (arrV (gTY g 0) n1 (fun j => fval g (atg 0) ((cpy h sa sp ta tp n).1 ta j))) = H1
  have hheap : ((T.setVm vm').setCell (gN g + (ta - 1).toNat) (arrV (gTY g 0) n1 (fun j => fval g (atg 0) ((cpy h sa sp ta tp n).1 ta j)))).heap = H1 := by rw [← hH1, ← hT]; rfl
  have z1 : H1.size = H.size := by rw [← hH1]; simp
  have oq : ∀ q : Nat, q ≠ gN g + (ta - 1).toNat → H1[q]? = H[q]? := fun q hq => by
    rw [← hH1]
    exact getE_ne hq
  have hat : H1[gN g + (ta - 1).toNat]? = some (arrV (gTY g 0) n1 (fun j => fval g (atg 0) ((cpy h sa sp ta tp n).1 ta j))) := by rw [← hH1]; exact getE_eq hl1
  have hrokc : ∀ {x : Int} {j : Int}, InR x → rok (0, n1) j x := fun {x j} hx => ⟨fun _ => hx, fun z => absurd (show (0 : Nat) = 1 from z) (by decide), fun z => absurd (show (0 : Nat) = 2 from z) (by decide), fun z => absurd (show (0 : Nat) = 3 from z) (by decide), fun z => absurd (show 20 ≤ 0 from z) (by decide)⟩
  have hRn : RSl g (cpy h sa sp ta tp n) H1 := by
    refine RS_upd g hR ht0 d4' rfl (fun b hb => by funext j; show (if b = ta ∧ _ then _ else h.1 b j) = _; rw [if_neg (fun z => hb z.1)]) (fun j hj => hrokc ?_) z1 ?_ oq
    · show InR (if ta = ta ∧ tp ≤ j ∧ j < tp + n then h.1 sa (sp + (j - tp)) else h.1 ta j)
      split
      · rename_i hj2
        exact (e8 (sp + (j - tp)) (by omega) (by omega)).1 (Or.inl rfl)
      · obtain ⟨h1, h2⟩ := shp_pos ht0 d4'
        have := hR.2.2.2.2.1 _ _ h1 j hj
        rw [h2] at this
        exact this.1 (Or.inl rfl)
    · rw [entA g (by decide)]
      show H1[_]? = some (vp_cell _ _)
      rw [vp_cellA g (by decide)]
      exact hat
  have hSn : ∀ L' : List Loc, (∀ q ∈ L', gA g q.base) → va_S (gA g) s.heap H1 (locs ++ L') := fun L' hL' => by
    refine ⟨by rw [z1]; exact hS.1, fun q g1 g2 => ?_, fun q hq => ?_⟩
    · rw [oq q (fun z => g2 (by rw [z]; exact hA_of))]
      exact hS.2.1 q g1 g2
    · exact (List.mem_append.mp hq).elim (hS.2.2 q) (hL' q)
  obtain ⟨t, a1, b1⟩ := kk lsR H1 _ hRn hl (vtl (vtl (vtl (vtl (vtl hv))))) (hSn _ (fun q hq => by obtain ⟨z, -, hz⟩ := List.mem_map.mp hq; rw [← hz]; exact hA_of)) hc hs _ hheap X'
  refine ⟨t, ?_, b1⟩
  have := step t a1
  show Steps p.tables e below (T.setTop (F0 m pc lsR (.int (i32 n) :: .int (i32 tp) :: va_rf (rfo g ta) :: .int (i32 sp) :: va_rf (rfo g sa) :: r.map (cv g)))) t
  rw [d1, e1]
  exact this
end ST8
