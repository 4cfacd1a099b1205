/-! stores -/
section ST3
variable {p : Program} {l : Launch} {e : Env} {R : Room} {s : State} {m : MethodId} {args : Array Value} {below : List Frame} {meth : Method} {c : Code} {Q : State → Prop} {g : GG} {y c0 s0 pc : Nat} {ls r : List MV} {h : Hp}
theorem RS_arr {H H1 : Heap} (hR : RSl g h H) {a i v : Int} {k n : Nat} (ha : 0 < a) (hk : k < 9) (hs : shp h a = some (k, n)) (hi : 0 ≤ i) (hv : rok (k, n) i v)
    (e : H1[gN g + (a - 1).toNat]? = some ((arrV (gTY g k) n (fun j => fval g (atg k) (ld h a j))).setSlot i.toNat (fval g (atg k) v))) (z : H1.size = H.size) (oq : ∀ q, q ≠ gN g + (a - 1).toNat → H1[q]? = H[q]?) : RSl g (st h a i v) H1 := by
  obtain ⟨h1, h2⟩ := shp_pos ha hs
  refine RS_st g hR ha hs hi hv z ?_
  refine va_P.set hR.1 (wl_D g h) (wl_at g h1) ?_ oq
  rw [entA g hk]
  show H1[_]? = some (vp_cell _ _)
  rw [vp_cellA g hk, e, arrV_store]
  congr 2
  funext j
  unfold updV
  by_cases hj : j = i.toNat
  · rw [if_pos hj, if_pos (by omega)]
  · rw [if_neg hj, if_neg (by omega)]; rfl
theorem hA_of {a : Int} : gA g (gN g + (a - 1).toNat) := by unfold gA; omega
theorem s_iastore (C : Ctx p l s m args meth c g y) {v i a : Int} (ho : okW h a 0 = true) (hi : 0 ≤ i ∧ i < len h a) (hdg : decode (yB y) pc = .ok (.iastore, 1)) (kk : G2 p l e R s m args below meth c Q g y c0 s0 (pc + 1) ls r (st h a i v)) : G2 p l e R s m args below meth c Q g y c0 s0 pc ls ((0, v) :: (0, i) :: (2, a) :: r) h := by
  intro lsR H locs hR hl hv hS hc hs
  obtain ⟨hx, hb, hml, hown, hts, hKN, -⟩ := C
  obtain ⟨ha, ho⟩ := okW_sh ho
  obtain ⟨ra, n, cell, e1, e2, e3, e4, e4', e5, e6, -, e7, e8, e9⟩ := rd_arr hKN hS hR (by decide) ho
  obtain ⟨rfl, rfl⟩ := e9 ha
  rw [e5] at hi
  obtain ⟨i1, i2⟩ := idx_in (in0 (vtl hv)) hi
  show W p l e R s m args below meth c H locs (cnt h - c0) (ssum h - s0) Q (F0 m pc lsR (.int (i32 v) :: .int (i32 i) :: va_rf (rfo g a) :: r.map (cv g)))
  rw [e1]
  refine W.iast hx hb e2 e3 e4 (fun q => i1 (q.imp id (fun q => Nat.le_trans e6 q))) rfl rfl hdg fun H1 f1 f2 f3 => ?_
  rw [i2] at f1
  have hv0 := in0 hv
  exact kk lsR H1 _ (RS_arr hR ha (by decide) e4' hi.1 ⟨fun _ => hv0, fun z => absurd (show (0 : Nat) = 1 from z) (by decide), fun z => absurd (show (0 : Nat) = 2 from z) (by decide), fun z => absurd (show (0 : Nat) = 3 from z) (by decide), fun z => absurd (show 20 ≤ 0 from z) (by decide)⟩ f1 f2 f3) hl (vtl (vtl (vtl hv))) (hS.put f2 f3 hA_of) hc hs
theorem s_lastore (C : Ctx p l s m args meth c g y) {v i a : Int} (ho : okW h a 1 = true) (hi : 0 ≤ i ∧ i < len h a) (hdg : decode (yB y) pc = .ok (.lastore, 1)) (kk : G2 p l e R s m args below meth c Q g y c0 s0 (pc + 1) ls r (st h a i v)) : G2 p l e R s m args below meth c Q g y c0 s0 pc ls ((1, v) :: (0, i) :: (2, a) :: r) h := by
  intro lsR H locs hR hl hv hS hc hs
  obtain ⟨hx, hb, hml, hown, hts, hKN, -⟩ := C
  obtain ⟨ha, ho⟩ := okW_sh ho
  obtain ⟨ra, n, cell, e1, e2, e3, e4, e4', e5, e6, -, e7, e8, e9⟩ := rd_arr hKN hS hR (by decide) ho
  obtain ⟨rfl, rfl⟩ := e9 ha
  rw [e5] at hi
  obtain ⟨i1, i2⟩ := idx_in (in0 (vtl hv)) hi
  show W p l e R s m args below meth c H locs (cnt h - c0) (ssum h - s0) Q (F0 m pc lsR (.long (i64 v) :: .int (i32 i) :: va_rf (rfo g a) :: r.map (cv g)))
  rw [e1]
  refine W.last hx hb e2 e3 e4 (fun q => i1 (q.imp id (fun q => Nat.le_trans e6 q))) rfl rfl hdg fun H1 f1 f2 f3 => ?_
  rw [i2] at f1
  have hv0 := in1 hv
  exact kk lsR H1 _ (RS_arr hR ha (by decide) e4' hi.1 ⟨fun z => absurd (show (1 : Nat) = 0 ∨ (1 : Nat) = 2 ∨ (1 : Nat) = 3 ∨ (1 : Nat) = 4 from z) (by decide), fun _ => hv0, fun z => absurd (show (1 : Nat) = 2 from z) (by decide), fun z => absurd (show (1 : Nat) = 3 from z) (by decide), fun z => absurd (show 20 ≤ 1 from z) (by decide)⟩ f1 f2 f3) hl (vtl (vtl (vtl hv))) (hS.put f2 f3 hA_of) hc hs
theorem s_castore (C : Ctx p l s m args meth c g y) {v i a : Int} (ho : okW h a 3 = true) (hi : 0 ≤ i ∧ i < len h a) (hdg : decode (yB y) pc = .ok (.castore, 1)) (kk : G2 p l e R s m args below meth c Q g y c0 s0 (pc + 1) ls r (st h a i (v % 65536))) : G2 p l e R s m args below meth c Q g y c0 s0 pc ls ((0, v) :: (0, i) :: (2, a) :: r) h := by
  intro lsR H locs hR hl hv hS hc hs
  obtain ⟨hx, hb, hml, hown, hts, hKN, -⟩ := C
  obtain ⟨ha, ho⟩ := okW_sh ho
  obtain ⟨ra, n, cell, e1, e2, e3, e4, e4', e5, e6, -, e7, e8, e9⟩ := rd_arr hKN hS hR (by decide) ho
  obtain ⟨rfl, rfl⟩ := e9 ha
  rw [e5] at hi
  obtain ⟨i1, i2⟩ := idx_in (in0 (vtl hv)) hi
  show W p l e R s m args below meth c H locs (cnt h - c0) (ssum h - s0) Q (F0 m pc lsR (.int (i32 v) :: .int (i32 i) :: va_rf (rfo g a) :: r.map (cv g)))
  rw [e1]
  refine W.cast hx hb e2 e3 e4 (fun q => i1 (q.imp id (fun q => Nat.le_trans e6 q))) rfl rfl hdg fun H1 f1 f2 f3 => ?_
  rw [i2, nar_char] at f1
  exact kk lsR H1 _ (RS_arr hR ha (by decide) e4' hi.1 ⟨fun _ => by unfold InR; omega, fun z => absurd (show (3 : Nat) = 1 from z) (by decide), fun z => absurd (show (3 : Nat) = 2 from z) (by decide), fun _ => by omega, fun z => absurd (show 20 ≤ 3 from z) (by decide)⟩ f1 f2 f3) hl (vtl (vtl (vtl hv))) (hS.put f2 f3 hA_of) hc hs
theorem s_bastore (C : Ctx p l s m args meth c g y) {v i a : Int} (ho : okW h a 2 = true) (hi : 0 ≤ i ∧ i < len h a) (hv01 : v = 0 ∨ v = 1) (hdg : decode (yB y) pc = .ok (.bastore, 1)) (kk : G2 p l e R s m args below meth c Q g y c0 s0 (pc + 1) ls r (st h a i v)) : G2 p l e R s m args below meth c Q g y c0 s0 pc ls ((0, v) :: (0, i) :: (2, a) :: r) h := by
  intro lsR H locs hR hl hv hS hc hs
  obtain ⟨hx, hb, hml, hown, hts, hKN, -⟩ := C
  obtain ⟨ha, ho⟩ := okW_sh ho
  obtain ⟨ra, n, cell, e1, e2, e3, e4, e4', e5, e6, -, e7, e8, e9⟩ := rd_arr hKN hS hR (by decide) ho
  obtain ⟨rfl, rfl⟩ := e9 ha
  rw [e5] at hi
  obtain ⟨i1, i2⟩ := idx_in (in0 (vtl hv)) hi
  show W p l e R s m args below meth c H locs (cnt h - c0) (ssum h - s0) Q (F0 m pc lsR (.int (i32 v) :: .int (i32 i) :: va_rf (rfo g a) :: r.map (cv g)))
  rw [e1]
  refine W.zast hx hb e2 e3 e4 (fun q => i1 (q.imp id (fun q => Nat.le_trans e6 q))) rfl rfl hdg fun H1 f1 f2 f3 => ?_
  rw [i2, nar_bool hv01] at f1
  exact kk lsR H1 _ (RS_arr hR ha (by decide) e4' hi.1 ⟨fun _ => in0 hv, fun z => absurd (show (2 : Nat) = 1 from z) (by decide), fun _ => hv01, fun z => absurd (show (2 : Nat) = 3 from z) (by decide), fun z => absurd (show 20 ≤ 2 from z) (by decide)⟩ f1 f2 f3) hl (vtl (vtl (vtl hv))) (hS.put f2 f3 hA_of) hc hs
theorem s_aastore (C : Ctx p l s m args meth c g y) {v i a : Int} {k cc : Nat} (hkc : (k = 5 ∧ cc = 32) ∨ (k = 6 ∧ cc = 22) ∨ (k = 7 ∧ cc = 29)) (ho : okW h a k = true) (hi : 0 ≤ i ∧ i < len h a) (hve : okF h v cc = true) (hdg : decode (yB y) pc = .ok (.aastore, 1)) (kk : G2 p l e R s m args below meth c Q g y c0 s0 (pc + 1) ls r (st h a i v)) : G2 p l e R s m args below meth c Q g y c0 s0 pc ls ((2, v) :: (0, i) :: (2, a) :: r) h := by
  intro lsR H locs hR hl hv hS hc hs
  obtain ⟨hx, hb, hml, hown, hts, hKN, -⟩ := C
  obtain ⟨ha, ho⟩ := okW_sh ho
  have hk9 : k < 9 := by omega
  obtain ⟨ra, n, cell, e1, e2, e3, e4, e4', e5, e6, -, e7, e8, e9⟩ := rd_arr hKN hS hR hk9 ho
  obtain ⟨rfl, rfl⟩ := e9 ha
  obtain ⟨rv, cellV, v1, v2, v3, v4⟩ := rd_recv hKN hS hR (by omega) hve
  rw [e5] at hi
  obtain ⟨i1, i2⟩ := idx_in (in0 (vtl hv)) hi
  have hat : atg k = 2 := by unfold atg; rw [if_neg (by omega), if_pos (by omega)]
  have hty : tyK k = .object (cnm cc) := by
    rcases hkc with ⟨rfl, rfl⟩ | ⟨rfl, rfl⟩ | ⟨rfl, rfl⟩ <;> rfl
  have hRA := (hKN.1.2 k _ (TYS_at g hk9)).2
  rw [hty] at hRA
  obtain ⟨kA, comp, k1, k2, k3, -⟩ := hRA
  obtain ⟨kE, hkE, -⟩ := Vm.findClass_spec k3
  obtain ⟨kC, hkC, -⟩ := Vm.findClass_spec v4
  show W p l e R s m args below meth c H locs (cnt h - c0) (ssum h - s0) Q (F0 m pc lsR (va_rf (rfo g v) :: .int (i32 i) :: va_rf (rfo g a) :: r.map (cv g)))
  rw [e1, v1]
  refine W.aast hx hb e2 (fun q h => by cases h) (fun h => by cases h) k1 k2 rfl hkE ⟨fun q => i1 (Or.inl q), by rw [arrV_size]; exact Nat.not_le.mp fun q => i1 (Or.inr q)⟩ v2 (fun q h => by rw [h] at v3; cases v3) hkC (vb_asgS comp _ k3 v4) rfl rfl hdg fun H1 f1 f2 f3 => ?_
  rw [i2] at f1
  refine kk lsR H1 _ (RS_arr hR ha hk9 e4' hi.1 ⟨fun z => absurd (show k = 0 ∨ k = 2 ∨ k = 3 ∨ k = 4 from z) (by omega), fun z => absurd (show k = 1 from z) (by omega), fun z => absurd (show k = 2 from z) (by omega), fun z => absurd (show k = 3 from z) (by omega), fun z => absurd (show 20 ≤ k from z) (by omega)⟩ ?_ f2 f3) hl (vtl (vtl (vtl hv))) (hS.put f2 f3 hA_of) hc hs
  rw [hat] at f1 ⊢
  rw [show fval g 2 v = .ref rv from v1]
  exact f1
end ST3
