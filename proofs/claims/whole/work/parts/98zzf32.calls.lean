/-! calls by contract -/
def TW : List Cond := lw_tbl.filter goodWord
theorem tw_in {w : Cond} (h : w ∈ lw_tbl) (hg : goodWord w = true) : w ∈ TW := List.mem_filter.mpr ⟨h, hg⟩
def yWs (y : Nat) : List Cond := Cond.code (yN y) (yB y) (nlo y) (yR y) :: TW
def rvO (g : GG) (v : MV) : Option Value := if v.1 = 9 then none else some (cv g v)
def Pcall (g : GG) (as : List MV) (h : Hp) : Array Value → State → Prop := fun a U => a = (as.map (cv g)).toArray ∧ RSl g h U.heap ∧ KN g U U.heap ∧ gN g ≤ U.heap.size
def Qcall (g : GG) (v : MV) (h' : Hp) : Array Value → State → Outcome → State → Prop := fun _ st oc t => oc = .returned (rvO g v) ∧ (v.1 ≠ 9 → vok v) ∧ RSl g h' t.heap ∧ va_F (gA g) st t
def MetC (l : Launch) (g : GG) (d y : Nat) (as : List MV) (h : Hp) (v : MV) (h' : Hp) : Prop :=
  Met l (yN y) (yWs y) ({ frames := d + 2, cells := cnt h' - cnt h, slots := ssum h' - ssum h, locals := 44 * d + 80 }) (Pcall g as h) (Qcall g v h') (cnt h' - cnt h) (ssum h' - ssum h) (gA g)
theorem Pcall_blind (g : GG) (as : List MV) (h : Hp) : FrameBlind (Pcall g as h) := by
  intro a U f mk ⟨h1, h2, h3, h4⟩
  exact ⟨h1, h2, KN_same h3 rfl, h4⟩
section CL
variable {p : Program} {l : Launch} {e : Env} {R : Room} {s : State} {m : MethodId} {args : Array Value} {below : List Frame} {meth : Method} {c : Code} {Q : State → Prop} {g : GG} {y c0 s0 pc : Nat} {ls r : List MV} {h : Hp}
theorem go_call {H : Heap} {locs : List Loc} {cells slots mc ms : Nat} {lsR : Array Slot} {st0 rest : List Value} {a : Array Value} {v : MV} {h' : Hp} (hr : va_Run p l e R s m args below meth c H locs cells slots mc ms (F0 m pc lsR st0) rest (Qcall g v h' a) (gA g)) (hS : va_S (gA g) s.heap H locs)
    (kk : ∀ (H1 : Heap) (locs1 : List Loc), RSl g h' H1 → (v.1 ≠ 9 → vok v) → va_S (gA g) s.heap H1 locs1 → W p l e R s m args below meth c H1 locs1 (cells + mc) (slots + ms) Q (F0 m (pc + 3) lsR ((rvO g v).toList ++ rest))) : W p l e R s m args below meth c H locs cells slots Q (F0 m pc lsR st0) := by
  intro T hT X
  obtain ⟨w, st₀, t, T', L, h0, X', hL, e1, e2, ⟨hv, hvk, hRS, hz, hk⟩, stp⟩ := hr T hT X
  cases hv
  rw [h0] at hz hk
  obtain ⟨t2, a1, b1⟩ := kk T'.heap (locs ++ L) (by rw [e1]; exact hRS) hvk
    ⟨Nat.le_trans hS.1 (by rw [e1]; exact hz), fun q h1 h2 => by rw [e1, hk q (Nat.lt_of_lt_of_le h1 hS.1) h2]; exact hS.2.1 q h1 h2, fun q hq => by
      rcases List.mem_append.mp hq with h | h
      · exact hS.2.2 q h
      · exact hL q h⟩ T' rfl X'
  exact ⟨t2, stp t2 a1, b1⟩
theorem pc_of (hKN : KN g s s.heap) {H : Heap} {locs : List Loc} (hS : va_S (gA g) s.heap H locs) (hR : RSl g h H) (as : List MV) : ∀ U : State, U.heap = H → s.WarmedH U.vm → Pcall g as h (as.map (cv g)).toArray U := by
  intro U hU hW
  refine ⟨rfl, by rw [hU]; exact hR, KN_warm hKN hW (by rw [hU]; exact hS.2.1), ?_⟩
  have := hR.2.2.1
  rw [hU]; omega
theorem yWs_good {z np : Nat} (hm : MP z np) : ∀ w ∈ yWs z, w ∈ TW := by
  intro w hw
  rcases List.mem_cons.mp hw with q | q
  · rw [q]; exact tw_in hm.1 rfl
  · exact q
/-- what a call's site gives, whatever its kind -/
theorem site {i z kd ne np : Nat} (C : Ctx p l s m args meth c g y) (hi : (yO y, i, z, kd, ne, np) ∈ CA) : CAP (yO y, i, z, kd, ne, np) ∧ (∀ w ∈ TW, w.before args s = true) := by
  refine ⟨CA_ok _ hi, fun w hw => ?_⟩
  obtain ⟨h1, h2⟩ := List.mem_filter.mp hw
  exact C.2.2.2.2.1 w h1 h2
theorem tws_warm (hT : ∀ w ∈ TW, w.before args s = true) {z np : Nat} (hm : MP z np) : ∀ w ∈ yWs z, ∀ (a' : Array Value) (U : State), s.WarmedH U.vm → w.before a' U = true :=
  pay_in hT (fun w hw => ⟨yWs_good hm w hw, good_of_word (by obtain ⟨-, h2⟩ := List.mem_filter.mp (yWs_good hm w hw); exact h2)⟩)
theorem rev_app (as rest : List MV) : (as.reverse ++ rest).map (cv g) = (as.map (cv g)).reverse ++ rest.map (cv g) := by
  rw [List.map_append, List.map_reverse]
theorem callB_site {i z kd np d mc ms : Nat} (C : Ctx p l s m args meth c g y) (hi : (yO y, i, z, kd, 0, np) ∈ CA) (hRm : d + 3 ≤ R.frames ∧ 44 * (d + 1) + 80 ≤ R.locals) :
    CallB R s args (CN (yO y)) i (yN z) (yB z) (nlo z) (yR z) (yWs z) ({ frames := d + 2, cells := mc, slots := ms, locals := 44 * d + 80 }) mc ms np := by
  obtain ⟨⟨c1, c2, c3, c4, c5, c6, c7, hm⟩, hT⟩ := site C hi
  have hm' := hm
  obtain ⟨m1, m2, ⟨m3, m3', m4⟩, m5, m6, m7⟩ := hm
  have m7 : nlo z ≤ 24 := m7
  refine ⟨rfl, rfl, hRm.1, by show 8 + (nlo z + 11) + (44 * d + 80) ≤ _; omega, tws_warm hT hm', List.mem_cons_self, C.2.2.2.2.1 _ m1 rfl, C.2.2.2.2.1 _ m2 rfl, ⟨m3, m3'⟩, fun sig hs => ?_, C.2.2.2.2.1 _ (c1 rfl) rfl⟩
  rw [hs] at m4
  exact (Option.some.inj m4).symm
theorem callN_site {i z kd np d mc ms : Nat} (C : Ctx p l s m args meth c g y) (hi : (yO y, i, z, kd, 1, np) ∈ CA) (hRm : d + 3 ≤ R.frames ∧ 44 * (d + 1) + 80 ≤ R.locals) :
    va_CN R s args (CN (yO y)) i (yN z) "PaidFaces" (yB z) (nlo z) (yR z) (yWs z) ({ frames := d + 2, cells := mc, slots := ms, locals := 44 * d + 80 }) mc ms np := by
  obtain ⟨⟨c1, c2, c3, c4, c5, c6, c7, hm⟩, hT⟩ := site C hi
  have hm' := hm
  obtain ⟨m1, m2, ⟨m3, m3', m4⟩, m5, m6, m7⟩ := hm
  have m7 : nlo z ≤ 24 := m7
  refine ⟨⟨rfl, rfl, hRm.1, by show 8 + (nlo z + 11) + (44 * d + 80) ≤ _; omega, tws_warm hT hm', List.mem_cons_self⟩, C.2.2.2.2.1 _ m1 rfl, C.2.2.2.2.1 _ m2 rfl, ⟨m3, m3'⟩, fun sig hs => ?_, va_Nw.use rfl (C.2.2.2.2.2.1.2.1 _ (c2 rfl) rfl)⟩
  rw [hs] at m4
  exact (Option.some.inj m4).symm
theorem callFix (C : Ctx p l s m args meth c g y) : CallFix p m c (yB y) (nlo y) s args TW (CN (yO y)) :=
  ⟨C.1, C.2.1, C.2.2.1, C.2.2.2.1, fun w hw => by obtain ⟨h1, h2⟩ := List.mem_filter.mp hw; exact C.2.2.2.2.1 w h1 h2⟩
/-- a static call -/
theorem s_static (C : Ctx p l s m args meth c g y) {i z ne np d q : Nat} {as : List MV} {v : MV} {h' : Hp} (hi : (yO y, i, z, 0, ne, np) ∈ CA) (hne : ne ≤ 1) (hM : MetC l g d z as h v h') (hq : v.1 = q) (hnp : as.length = np) (hr8 : rsum r ≤ 8) (hRm : d + 3 ≤ R.frames ∧ 44 * (d + 1) + 80 ≤ R.locals) (hRc : cnt h' - c0 ≤ R.cells ∧ ssum h' - s0 ≤ R.slots ∧ cnt h ≤ cnt h' ∧ ssum h ≤ ssum h')
    (hdg : decode (yB y) pc = .ok (.invokestatic i, 3)) (kk : G2 p l e R s m args below meth c Q g y c0 s0 (pc + 3) ls (if q = 9 then r else (q, v.2) :: r) h') : G2 p l e R s m args below meth c Q g y c0 s0 pc ls (as.reverse ++ r) h := by
  intro lsR H locs hR hl hv hS hc hs
  rw [rev_app]
  obtain ⟨⟨c1, c2, c3, c4, c5, c6, c7, hm⟩, hT⟩ := site C hi
  have hgo : va_Run p l e R s m args below meth c H locs (cnt h - c0) (ssum h - s0) (cnt h' - cnt h) (ssum h' - ssum h) (F0 m pc lsR ((as.map (cv g)).reverse ++ r.map (cv g))) (r.map (cv g)) (Qcall g v h' (as.map (cv g)).toArray) (gA g) := by
    have hrm := lv_room (m := m) (pc := pc) (ls := lsR) (rest := (as.map (cv g)).reverse ++ r.map (cv g)) (st := r.map (cv g)) (by rw [cat_sum]; exact hr8)
    have h01 : ne = 0 ∨ ne = 1 := by omega
    rcases h01 with rfl | rfl
    · exact va_runS (callFix C) hM ⟨callB_site C hi hRm, C.2.2.2.2.1 _ (c4 rfl) rfl⟩ ⟨Pcall_blind g as h, pc_of C.2.2.2.2.2.1 hS hR as⟩ rfl (by rw [List.length_map]; exact hnp) hl.1.1 rfl hrm hdg ⟨by omega, by omega⟩
    · exact va_runSN (callFix C) hM ⟨callN_site C hi hRm, C.2.2.2.2.1 _ (c4 rfl) rfl, trivial⟩ ⟨Pcall_blind g as h, pc_of C.2.2.2.2.2.1 hS hR as⟩ rfl (by rw [List.length_map]; exact hnp) hl.1.1 rfl hrm hdg ⟨by omega, by omega⟩
  refine go_call hgo hS fun H1 locs1 hR1 hv1 hS1 => ?_
  rw [show cnt h - c0 + (cnt h' - cnt h) = cnt h' - c0 by omega, show ssum h - s0 + (ssum h' - ssum h) = ssum h' - s0 by omega]
  have hvr : ∀ w ∈ r, vok w := fun w hw => hv w (List.mem_append.mpr (Or.inr hw))
  subst hq
  by_cases h9 : v.1 = 9
  · rw [if_pos h9] at kk
    have := kk lsR H1 locs1 hR1 hl hvr hS1 (by omega) (by omega)
    unfold rvO
    rw [if_pos h9]
    exact this
  · rw [if_neg h9] at kk
    have := kk lsR H1 locs1 hR1 hl (vcs (hv1 h9) hvr) hS1 (by omega) (by omega)
    unfold rvO
    rw [if_neg h9]
    exact this
theorem rsum_app (a b : List MV) : rsum (a ++ b) = rsum a + rsum b := by
  induction a with
  | nil => simp [rsum]
  | cons v a ih => simp only [List.cons_append, rsum, ih]; omega
/-- a call of a method of an object -/
theorem s_virtual (C : Ctx p l s m args meth c g y) {i z ne np d q k : Nat} {as : List MV} {a : Int} {v : MV} {h' : Hp} (hi : (yO y, i, z, 1, ne, np) ∈ CA) (hne : ne ≤ 1) (hk : 20 ≤ k) (hkc : cnm k = (yN z).cls) (ho : okF h a k = true) (hM : MetC l g d z ((2, a) :: as) h v h') (hq : v.1 = q) (hnp : as.length = np) (hr8 : rsum r ≤ 8) (hRm : d + 3 ≤ R.frames ∧ 44 * (d + 1) + 80 ≤ R.locals) (hRc : cnt h' - c0 ≤ R.cells ∧ ssum h' - s0 ≤ R.slots ∧ cnt h ≤ cnt h' ∧ ssum h ≤ ssum h')
    (hdg : decode (yB y) pc = .ok (.invokevirtual i, 3)) (kk : G2 p l e R s m args below meth c Q g y c0 s0 (pc + 3) ls (if q = 9 then r else (q, v.2) :: r) h') : G2 p l e R s m args below meth c Q g y c0 s0 pc ls (as.reverse ++ (2, a) :: r) h := by
  intro lsR H locs hR hl hv hS hc hs
  rw [rev_app]
  obtain ⟨⟨c1, c2, c3, c4, c5, c6, c7, hm⟩, hT⟩ := site C hi
  obtain ⟨ra, cell, r1, r2, r3, r4⟩ := rd_recv C.2.2.2.2.2.1 hS hR hk ho
  rw [hkc] at r4
  have ha : cv g (2, a) = .ref ra := r1
  show W p l e R s m args below meth c H locs (cnt h - c0) (ssum h - s0) Q (F0 m pc lsR ((as.map (cv g)).reverse ++ cv g (2, a) :: r.map (cv g)))
  rw [ha]
  have hPc := pc_of C.2.2.2.2.2.1 hS hR ((2, a) :: as)
  rw [List.map_cons, ha] at hPc
  have hgo : va_Run p l e R s m args below meth c H locs (cnt h - c0) (ssum h - s0) (cnt h' - cnt h) (ssum h' - ssum h) (F0 m pc lsR ((as.map (cv g)).reverse ++ .ref ra :: r.map (cv g))) (r.map (cv g)) (Qcall g v h' (Value.ref ra :: as.map (cv g)).toArray) (gA g) := by
    have hrm := lv_room (m := m) (pc := pc) (ls := lsR) (rest := (as.map (cv g)).reverse ++ .ref ra :: r.map (cv g)) (st := r.map (cv g)) (by rw [cat_sum]; exact hr8)
    have h01 : ne = 0 ∨ ne = 1 := by omega
    rcases h01 with rfl | rfl
    · exact va_runV (callFix C) hM ⟨callB_site C hi hRm, C.2.2.2.2.1 _ (c5 rfl).1 rfl, C.2.2.2.2.1 _ (c5 rfl).2 rfl⟩ ⟨Pcall_blind g _ h, ⟨cell, r2, r3, r4⟩, hPc⟩ rfl (by rw [List.length_map]; exact hnp) hl.1.1 rfl hrm hdg ⟨by omega, by omega⟩
    · exact va_runVN (callFix C) hM ⟨callN_site C hi hRm, C.2.2.2.2.1 _ (c5 rfl).1 rfl, C.2.2.2.2.1 _ (c5 rfl).2 rfl⟩ ⟨Pcall_blind g _ h, ⟨cell, r2, r3, r4⟩, hPc⟩ rfl (by rw [List.length_map]; exact hnp) hl.1.1 rfl hrm hdg ⟨by omega, by omega⟩
  refine go_call hgo hS fun H1 locs1 hR1 hv1 hS1 => ?_
  rw [show cnt h - c0 + (cnt h' - cnt h) = cnt h' - c0 by omega, show ssum h - s0 + (ssum h' - ssum h) = ssum h' - s0 by omega]
  have hvr : ∀ w ∈ r, vok w := fun w hw => hv w (List.mem_append.mpr (Or.inr (List.mem_cons_of_mem _ hw)))
  subst hq
  by_cases h9 : v.1 = 9
  · rw [if_pos h9] at kk
    have := kk lsR H1 locs1 hR1 hl hvr hS1 (by omega) (by omega)
    unfold rvO
    rw [if_pos h9]
    exact this
  · rw [if_neg h9] at kk
    have := kk lsR H1 locs1 hR1 hl (vcs (hv1 h9) hvr) hS1 (by omega) (by omega)
    unfold rvO
    rw [if_neg h9]
    exact this
/-- a constructor -/
theorem s_ctor (C : Ctx p l s m args meth c g y) {i z ne np d : Nat} {as : List MV} {a : Int} {v : MV} {h' : Hp} (hi : (yO y, i, z, 2, ne, np) ∈ CA) (hne : ne ≤ 1) (ha0 : a ≠ 0) (hM : MetC l g d z ((2, a) :: as) h v h') (hq : v.1 = 9) (hnp : as.length = np) (hr8 : rsum r ≤ 8) (hRm : d + 3 ≤ R.frames ∧ 44 * (d + 1) + 80 ≤ R.locals) (hRc : cnt h' - c0 ≤ R.cells ∧ ssum h' - s0 ≤ R.slots ∧ cnt h ≤ cnt h' ∧ ssum h ≤ ssum h')
    (hdg : decode (yB y) pc = .ok (.invokespecial i, 3)) (kk : G2 p l e R s m args below meth c Q g y c0 s0 (pc + 3) ls r h') : G2 p l e R s m args below meth c Q g y c0 s0 pc ls (as.reverse ++ (2, a) :: r) h := by
  intro lsR H locs hR hl hv hS hc hs
  rw [rev_app]
  obtain ⟨⟨c1, c2, c3, c4, c5, c6, c7, hm⟩, hT⟩ := site C hi
  obtain ⟨i1, i2, i3⟩ := c6 rfl
  have i3 : yR z = none := i3
  obtain ⟨ra, hra⟩ : ∃ ra, rfo g a = some ra := by
    cases hq : rfo g a with
    | none => exact absurd (rfo_none.mp hq) ha0
    | some ra => exact ⟨ra, rfl⟩
  have ha : cv g (2, a) = .ref ra := by show va_rf (rfo g a) = _; rw [hra]; rfl
  show W p l e R s m args below meth c H locs (cnt h - c0) (ssum h - s0) Q (F0 m pc lsR ((as.map (cv g)).reverse ++ cv g (2, a) :: r.map (cv g)))
  rw [ha]
  have hPc := pc_of C.2.2.2.2.2.1 hS hR ((2, a) :: as)
  rw [List.map_cons, ha] at hPc
  have hgo : va_Run p l e R s m args below meth c H locs (cnt h - c0) (ssum h - s0) (cnt h' - cnt h) (ssum h' - ssum h) (F0 m pc lsR ((as.map (cv g)).reverse ++ .ref ra :: r.map (cv g))) (r.map (cv g)) (Qcall g v h' (Value.ref ra :: as.map (cv g)).toArray) (gA g) := by
    have hrm := lv_room (m := m) (pc := pc) (ls := lsR) (rest := (as.map (cv g)).reverse ++ .ref ra :: r.map (cv g)) (st := r.map (cv g)) (by rw [cat_sum]; exact hr8)
    have h01 : ne = 0 ∨ ne = 1 := by omega
    rcases h01 with rfl | rfl
    · have hB := callB_site (mc := cnt h' - cnt h) (ms := ssum h' - ssum h) C hi hRm
      rw [i3] at hB
      exact va_runI (callFix C) hM ⟨hB, i2, C.2.2.2.2.1 _ i1 rfl⟩ ⟨Pcall_blind g _ h, hPc⟩ rfl (by rw [List.length_map]; exact hnp) hl.1.1 rfl hrm hdg ⟨by omega, by omega⟩
    · have hB := callN_site (mc := cnt h' - cnt h) (ms := ssum h' - ssum h) C hi hRm
      rw [i3] at hB
      exact va_runIN (callFix C) hM ⟨hB, i2, C.2.2.2.2.1 _ i1 rfl⟩ ⟨Pcall_blind g _ h, hPc⟩ rfl (by rw [List.length_map]; exact hnp) hl.1.1 rfl hrm hdg ⟨by omega, by omega⟩
  refine go_call hgo hS fun H1 locs1 hR1 hv1 hS1 => ?_
  rw [show cnt h - c0 + (cnt h' - cnt h) = cnt h' - c0 by omega, show ssum h - s0 + (ssum h' - ssum h) = ssum h' - s0 by omega]
  have hvr : ∀ w ∈ r, vok w := fun w hw => hv w (List.mem_append.mpr (Or.inr (List.mem_cons_of_mem _ hw)))
  have := kk lsR H1 locs1 hR1 hl hvr hS1 (by omega) (by omega)
  unfold rvO
  rw [if_pos hq]
  exact this
end CL
