theorem outerC_eq (c : ClassId) (N h0 : Nat) : ∀ i : Nat, Jvm.Free.Multi.outerC c N h0 i = arrV c N (fun j => va_rf (if j < i then some (h0 + 1 + j) else none))
  | 0 => by
    show ({ cls := c, slots := Array.replicate N .null, vm := .none } : Cell) = _
    rw [arrV_new]
    refine congrArg (arrV c N) (funext fun j => ?_)
    simp [va_rf]
  | i + 1 => by
    show (Jvm.Free.Multi.outerC c N h0 i).setSlot i (.ref (h0 + 1 + i)) = _
    rw [outerC_eq c N h0 i, arrV_store]
    refine congrArg (arrV c N) (funext fun j => ?_)
    by_cases e : j = i
    · subst e
      simp [updV, va_rf]
    · by_cases h : j < i
      · simp [updV, e, h, Nat.lt_succ_of_lt h]
      · simp [updV, e, h, show ¬ j < i + 1 by omega]
theorem mal_sh (h : Hp) (n m : Nat) (i : Nat) (sh : Nat × Nat) (hi : (mal h n m).2.1[i]? = some sh) : (i < h.2.1.length ∧ h.2.1[i]? = some sh) ∨ (i = h.2.1.length ∧ sh = (8, n)) ∨ (h.2.1.length < i ∧ i - h.2.1.length - 1 < n ∧ sh = (0, m)) := by
  have hlen : (mal h n m).2.1 = h.2.1 ++ (8, n) :: List.replicate n (0, m) := rfl
  rw [hlen] at hi
  by_cases hl : i < h.2.1.length
  · rw [List.getElem?_append_left hl] at hi
    exact Or.inl ⟨hl, hi⟩
  · rw [List.getElem?_append_right (by omega)] at hi
    by_cases h0 : i = h.2.1.length
    · subst h0
      rw [Nat.sub_self] at hi
      cases hi
      exact Or.inr (Or.inl ⟨rfl, rfl⟩)
    · obtain ⟨j, hj⟩ : ∃ j, i - h.2.1.length = j + 1 := ⟨i - h.2.1.length - 1, by omega⟩
      rw [hj, List.getElem?_cons_succ] at hi
      have hjn : j < n := by
        have := (List.getElem?_eq_some_iff.mp hi).1
        simpa using this
      rw [List.getElem?_replicate, if_pos hjn] at hi
      cases hi
      exact Or.inr (Or.inr ⟨by omega, by omega, rfl⟩)
theorem cnt_mal (h : Hp) (n m : Nat) : cnt (mal h n m) = cnt h + (1 + n) := by
  unfold cnt
  show (h.2.1 ++ (8, n) :: List.replicate n (0, m)).length + h.2.2.2 = _
  simp only [List.length_append, List.length_cons, List.length_replicate]; omega
theorem ssum_mal (h : Hp) (n m : Nat) : ssum (mal h n m) = ssum h + (n + n * m) := by
  unfold ssum
  show ((h.2.1 ++ (8, n) :: List.replicate n (0, m)).map Prod.snd).sum + h.2.2.2 * EXS = _
  rw [List.map_append, List.sum_append, List.map_cons, List.map_replicate, List.sum_cons, List.sum_replicate_nat]
  show _ + (n + n * m) + _ = _
  omega
section ST7
variable {p : Program} {l : Launch} {e : Env} {R : Room} {s : State} {m : MethodId} {args : Array Value} {below : List Frame} {meth : Method} {c : Code} {Q : State → Prop} {g : GG} {y c0 s0 pc : Nat} {ls r : List MV} {h : Hp}
theorem RS_mal {n k : Nat} {H H1 : Heap} (hR : RSl g h H) (hN : okN h = true) (hn : n ≤ 1000) (hk : k ≤ 1000) (f1 : H1.size = H.size + 1 + n) (hold : ∀ x : Nat, x < H.size → H1[x]? = H[x]?)
    (f2 : H1[H.size]? = some (arrV (gTY g 8) n (fun j => va_rf (if j < n then some (H.size + 1 + j) else none)))) (hrow : ∀ j : Nat, j < n → H1[H.size + 1 + j]? = some (arrV (gTY g 0) k (fun _ => .int 0))) : RSl g (mal h n k) H1 := by
  have hx0 : h.2.2.2 = 0 := by unfold okN at hN; simpa using hN
  have hsz := hR.2.1 hx0
  obtain ⟨r1, r2, r3, r4, r5, r6, r7, r8⟩ := hR
  have hnx : nxt h = (h.2.1.length : Int) + 1 := by unfold nxt; omega
  have hm1 : ∀ b j : Int, (mal h n k).1 b j = if b = nxt h ∧ 0 ≤ j ∧ j < (n : Int) then nxt h + 1 + j else h.1 b j := fun b j => rfl
  have hml2 : (mal h n k).2.1.length = h.2.1.length + (1 + n) := by
    show (h.2.1 ++ (8, n) :: List.replicate n (0, k)).length = _
    simp only [List.length_append, List.length_cons, List.length_replicate]; omega
  refine ⟨fun i q hq => ?_, fun _ => by rw [f1, hsz, hml2]; omega, by rw [f1, hml2]; omega, fun sh hsh => ?_, fun i sh hi j hj => ?_, fun a j ha => ?_, fun a ha => ?_, r8⟩
  · have hi : i < (mal h n k).2.1.length := by
      have := (List.getElem?_eq_some_iff.mp hq).1
      rw [wl_len] at this; exact this
    obtain ⟨sh, hsh⟩ : ∃ sh, (mal h n k).2.1[i]? = some sh := ⟨_, List.getElem?_eq_getElem hi⟩
    rw [wl_at g hsh] at hq
    cases hq
    rcases mal_sh h n k i sh hsh with ⟨a1, a2⟩ | ⟨a1, a2⟩ | ⟨a1, a2, a3⟩
    · have e : (mal h n k).1 ((i : Int) + 1) = h.1 ((i : Int) + 1) := by
        funext j; rw [hm1, if_neg (by omega)]
      rw [e]
      exact (r1 i _ (wl_at g a2)).kept (hold _ (by omega))
    · subst a1; subst a2
      rw [entA g (by decide)]
      show H1[_]? = some (vp_cell _ _)
      rw [vp_cellA g (by decide), ← hsz, f2]
      congr 2
      funext j
      show _ = va_rf (rfo g ((mal h n k).1 ((h.2.1.length : Int) + 1) (j : Int)))
      rw [hm1]
      by_cases hj : j < n
      · rw [if_pos hj, if_pos (by omega), rfo_pos g (by omega)]
        congr 2
        omega
      · rw [if_neg hj, if_neg (by omega), r6 _ _ (by omega)]; rfl
    · subst a3
      rw [entA g (by decide)]
      show H1[_]? = some (vp_cell _ _)
      rw [vp_cellA g (by decide), show gN g + i = H.size + 1 + (i - h.2.1.length - 1) by omega, hrow _ a2]
      congr 2
      funext j
      show _ = Value.int (i32 ((mal h n k).1 ((i : Int) + 1) (j : Int)))
      rw [hm1, if_neg (by omega), r6 _ _ (by omega)]; rfl
  · obtain ⟨i, hi⟩ := List.getElem?_of_mem hsh
    rcases mal_sh h n k i sh hi with ⟨a1, a2⟩ | ⟨a1, a2⟩ | ⟨a1, a2, a3⟩
    · exact r4 sh (List.mem_of_getElem? a2)
    · subst a2; exact Or.inl ⟨(by decide : (8 : Nat) < 9), (show n ≤ 100000 by omega)⟩
    · subst a3; exact Or.inl ⟨(by decide : (0 : Nat) < 9), (show k ≤ 100000 by omega)⟩
  · rw [hm1]
    rcases mal_sh h n k i sh hi with ⟨a1, a2⟩ | ⟨a1, a2⟩ | ⟨a1, a2, a3⟩
    · rw [if_neg (by omega)]
      exact r5 i sh a2 j hj
    · subst a2
      exact ⟨fun z => absurd (show (8 : Nat) = 0 ∨ (8 : Nat) = 2 ∨ (8 : Nat) = 3 ∨ (8 : Nat) = 4 from z) (by decide), fun z => absurd (show (8 : Nat) = 1 from z) (by decide), fun z => absurd (show (8 : Nat) = 2 from z) (by decide), fun z => absurd (show (8 : Nat) = 3 from z) (by decide), fun z => absurd (show 20 ≤ 8 from z) (by decide)⟩
    · rw [if_neg (by omega), r6 _ _ (by omega)]
      exact rok0 sh j
  · rw [hml2] at ha
    rw [hm1, if_neg (by omega)]
    exact r6 a j (by omega)
  · funext j
    rw [hm1, if_neg (by omega), r7 a ha]
theorem s_multi (C : Ctx p l s m args meth c g y) {i : Nat} {n k : Int} (hi : (yO y, i, 0) ∈ MU) (hn : (0 ≤ n ∧ n ≤ 1000) ∧ 0 ≤ k ∧ k ≤ 1000) (hN : okN h = true) (hRm : cnt h + (1 + n.toNat) - c0 ≤ R.cells ∧ ssum h + (n.toNat + n.toNat * k.toNat) - s0 ≤ R.slots) (hdg : decode (yB y) pc = .ok (.multianewarray i 2, 4)) (kk : G2 p l e R s m args below meth c Q g y c0 s0 (pc + 4) ls ((2, nxt h) :: r) (mal h n.toNat k.toNat)) : G2 p l e R s m args below meth c Q g y c0 s0 pc ls ((0, k) :: (0, n) :: r) h := by
  intro lsR H locs hR hl hv hS hc hs
  obtain ⟨hx, hb, hml, hown, hts, hKN, -⟩ := C
  have w1 : Cond.classLink (CN (yO y)) i "[[I" ∈ lw_tbl := MU_ok _ hi
  have hx0 : h.2.2.2 = 0 := by unfold okN at hN; simpa using hN
  have hsz := hR.2.1 hx0
  have hkR := in0 hv
  have hnR := in0 (vtl hv)
  have hcn : (i32 n).toNatClampNeg = n.toNat := by show (i32 n).toInt.toNat = _; rw [i32_T hnR]
  have hck : (i32 k).toNatClampNeg = k.toNat := by show (i32 k).toInt.toNat = _; rw [i32_T hkR]
  have hcnt := cnt_mal h n.toNat k.toNat
  have hss := ssum_mal h n.toNat k.toNat
  have hn0 : ¬ i32 n < 0 := fun q => by have := (n_lt hnR (show InR 0 by unfold InR; omega)).mp q; omega
  have hk0 : ¬ i32 k < 0 := fun q => by have := (n_lt hkR (show InR 0 by unfold InR; omega)).mp q; omega
  have b1 : (i32 n).toNatClampNeg * 4 ≤ 536870912 := by rw [hcn]; omega
  have b2 : (i32 k).toNatClampNeg * componentBytes .int ≤ 536870912 := by rw [hck]; show k.toNat * 4 ≤ _; omega
  have b3 : (i32 k).toNatClampNeg ≤ 536870912 := by rw [hck]; omega
  have b4 : cnt h - c0 + (1 + (i32 n).toNatClampNeg) ≤ R.cells := by rw [hcn]; omega
  have b5 : ssum h - s0 + ((i32 n).toNatClampNeg + (i32 n).toNatClampNeg * (i32 k).toNatClampNeg) ≤ R.slots := by rw [hcn, hck]; omega
  have b60 : (Cond.arrayOver (.array .int)).before #[] s = true := hKN.2.2.2.2.2.2.2.1 8 (by decide) (by decide)
  have b6 : (Cond.arrayOver (.array .int)).before args s = true := b60
  have b7 := hts _ AC_0 rfl
  have b8 := hts _ w1 rfl
  intro T hT X
  have hdg' : decode c.code pc = .ok (.multianewarray i 2, 4) := by rw [hb]; exact hdg
  obtain ⟨vm₁, cA, comp, -, fA, fC, hO, -, X', step⟩ := X.multianewarray2F (n := i32 n) (k := i32 k) (ty := .int) (rest := r.map (cv g)) (index := i) hx hown b8 b6 b7 (g := F0 m pc lsR (.int (i32 k) :: .int (i32 n) :: r.map (cv g))) rfl hdg' rfl hn0 hk0 b1 b2 b3 rfl rfl b4 b5
  rw [hcn, hck] at X' step
  generalize hF : Jvm.Free.Multi.fill (T.setVm vm₁) cA comp n.toNat k.toNat (defaultValue .int) n.toNat = F at X' step
  have hTh : (T.setVm vm₁).heap = H := hT
  obtain ⟨f1, f2, -, -⟩ := Jvm.Free.Multi.fill_facts (T.setVm vm₁) cA comp n.toNat k.toNat (defaultValue .int) n.toNat
  rw [hF, hTh] at f1 f2
  have hold : ∀ x : Nat, x < H.size → F.heap[x]? = H[x]? := fun x hx => by
    have := Jvm.Free.Multi.fill_old (T.setVm vm₁) cA comp n.toNat k.toNat (defaultValue .int) (a := x) (by rw [hTh]; exact hx) n.toNat
    rw [hF, hTh] at this
    exact this
  have hrow : ∀ j : Nat, j < n.toNat → F.heap[H.size + 1 + j]? = some (arrV comp k.toNat (fun _ => .int 0)) := fun j hj => by
    have := Jvm.Free.Multi.fill_inner (T.setVm vm₁) cA comp n.toNat k.toNat (defaultValue .int) n.toNat j hj
    rw [hF, hTh] at this
    rw [this]
    show some ({ cls := comp, slots := Array.replicate k.toNat (.int 0), vm := .none } : Cell) = _
    rw [arrV_new]
  rw [outerC_eq] at f2
  have hcA : cA = gTY g 8 := by
    have h8 : s.vm.findClass ("[" ++ (FieldType.array .int).toString) = some (gTY g 8) := (hKN.1.2 8 _ (TYS_at g (by decide))).2
    rw [fA] at h8
    exact Option.some.inj h8
  have hcm : comp = gTY g 0 := by
    have h0 := TY_find hKN (k := 0) (by decide)
    have e0 : "[" ++ (tyK 0).toString = (FieldType.array .int).toString := by decide
    rw [e0, fC] at h0
    exact Option.some.inj h0
  subst hcA; subst hcm
  have hRn := RS_mal hR hN (show n.toNat ≤ 1000 by omega) (show k.toNat ≤ 1000 by omega) f1 hold f2 hrow
  have kk := kk lsR F.heap locs hRn hl (vcs vok2 (vtl (vtl hv))) (S_push hS (by rw [f1]; omega) hold) (by rw [hcnt]; omega) (by rw [hss]; omega)
  rw [hcnt, hss] at kk
  have kk : W p l e R s m args below meth c F.heap locs (cnt h + (1 + n.toNat) - c0) (ssum h + (n.toNat + n.toNat * k.toNat) - s0) Q (F0 m (pc + 4) lsR (va_rf (rfo g (nxt h)) :: r.map (cv g))) := kk
  rw [nxt_rfo, ← hsz] at kk
  generalize n.toNat * k.toNat = nk at *
  rw [show cnt h - c0 + 1 + n.toNat = cnt h + (1 + n.toNat) - c0 by omega, show ssum h - s0 + n.toNat + nk = ssum h + (n.toNat + nk) - s0 by omega] at X'
  obtain ⟨t, b1, b2⟩ := kk F rfl X'
  refine ⟨t, step t ?_, b2⟩
  rw [hT]
  exact b1
theorem cat_sum : ∀ r : List MV, ((r.map (cv g)).map fun v => v.category).sum = rsum r
  | [] => rfl
  | v :: r => by
    show (cv g v).category + ((r.map (cv g)).map fun v => v.category).sum = (if v.1 = 1 then 2 else 1) + rsum r
    rw [cat_sum r]
    by_cases h : v.1 = 1
    · rw [if_pos h, cv_cat g h]
    · rw [if_neg h, cv_cat1 g h]
theorem s_objinit (C : Ctx p l s m args meth c g y) {i : Nat} {a : Int} (hi : (yO y, i, 0) ∈ OBl) (hr8 : rsum r ≤ 8) (hRf : 1 ≤ R.frames ∧ 40 ≤ R.locals) (ha0 : a ≠ 0) (hdg : decode (yB y) pc = .ok (.invokespecial i, 3)) (kk : G2 p l e R s m args below meth c Q g y c0 s0 (pc + 3) ls r h) : G2 p l e R s m args below meth c Q g y c0 s0 pc ls ((2, a) :: r) h := by
  intro lsR H locs hR hl hv hS hc hs
  obtain ⟨hx, hb, hml, hown, hts, hKN, -⟩ := C
  have w1 : Cond.methodLink (CN (yO y)) i Lib.objectInit ∈ lw_tbl := OB_ok _ hi
  have kk := kk lsR H locs hR hl (vtl hv) hS hc hs
  show W p l e R s m args below meth c H locs (cnt h - c0) (ssum h - s0) Q (F0 m pc lsR (va_rf (rfo g a) :: r.map (cv g)))
  cases hq : rfo g a with
  | none => exact absurd (rfo_none.mp hq) ha0
  | some q =>
    refine W.objInit hx hb hown (hts _ w1 rfl) (hts _ w_oi rfl) (hts _ w_oc rfl) rfl (hl.1.1.trans hml.symm) rfl hdg hRf.1 ?_ kk
    have := lv_room (m := m) (pc := pc) (ls := lsR) (rest := (Value.ref q) :: r.map (cv g)) (st := r.map (cv g)) (by rw [cat_sum]; exact hr8)
    exact Nat.le_trans (Nat.add_le_add_right this 12) (by omega)
end ST7
