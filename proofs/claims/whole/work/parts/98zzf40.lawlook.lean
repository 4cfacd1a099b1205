/-! the law's own look: both throws are caught there -/
def hL : List (Nat × Nat × Nat × Nat) := [(0, 10, 13, 13), (0, 10, 17, 15)]
def wsL : List Cond := Cond.codeWith (yN 254) (yB 254) 5 (some .int) hL :: TW
def MetL (l : Launch) (g : GG) (d : Nat) (as : List MV) (h : Hp) (v : MV) (h' : Hp) : Prop :=
  Met l (yN 254) wsL ({ frames := d + 2, cells := cnt h' - cnt h, slots := ssum h' - ssum h, locals := 44 * d + 80 }) (fun a U => Pcall g as h a U ∧ CXs U) (Qcall g v h') (cnt h' - cnt h) (ssum h' - ssum h) (gA g)
theorem nlo_254 : nlo 254 = 5 := by decide +kernel
theorem cn_254 : CN (yO 254) = "PaidFacesLaw" := by decide +kernel
theorem yr_254 : yR 254 = some .int := by decide +kernel
theorem cls_254 : (yN 254).cls = "PaidFacesLaw" := by decide +kernel
theorem cls_7 : cnm 30 = (yN 7).cls := by decide +kernel
set_option maxRecDepth 10000 in
theorem lk_7 : Cond.methodLink "PaidFacesLaw" 7 (yN 7) ∈ lw_tbl := tb_5 _ (List.mem_of_getElem? (i := 182) rfl)
set_option maxRecDepth 10000 in
theorem im_7 : Cond.instanceMethod (yN 7) ∈ lw_tbl := tb_5 _ (List.mem_of_getElem? (i := 183) rfl)
set_option maxRecDepth 10000 in
theorem se_7 : Cond.selects (yN 7).cls (yN 7) (yN 7) ∈ lw_tbl := tb_5 _ (List.mem_of_getElem? (i := 184) rfl)
set_option maxRecDepth 10000 in
theorem cl_13 : Cond.classLink "PaidFacesLaw" 13 exI ∈ lw_tbl := tb_5 _ (List.mem_of_getElem? (i := 180) rfl)
set_option maxRecDepth 10000 in
theorem cl_15 : Cond.classLink "PaidFacesLaw" 15 exN ∈ lw_tbl := tb_5 _ (List.mem_of_getElem? (i := 181) rfl)
set_option maxRecDepth 40000 in
theorem e254l_0 (d : Nat) (x0 x1 x2 x3 : Int) (h : Hp) : V d 254 0 [(2, x0), (0, x1), (0, x2), (2, x3), (9, 0)] [] h = (if okF h x3 1 = true then (if okF h x0 30 = true then (Cl d 7 [(2, x0), (0, x1), (0, x2)] 0 h (fun r1 h1 => if r1 = 1099511627777 then (V d 254 50 [(2, x0), (0, x1), (0, x2), (2, x3), (9, 0)] [(0, r1)] h1) else if r1 = 1099511627778 then (V d 254 60 [(2, x0), (0, x1), (0, x2), (2, x3), (9, 0)] [(0, r1)] h1) else if okW h1 x3 1 = true then (if (0 : Int) ≤ 0 ∧ (0 : Int) < len h1 x3 then some ((0, 0), st h1 x3 0 r1) else none) else none)) else none) else none) := (V_blk d 254 [(50, []), (60, [])] (by decide +kernel) [(.aload_n 3, 1, [], []), (.arraylength, 1, [], [1]), (.pop, 1, [], []), (.aload_n 0, 1, [], []), (.iload_n 1, 1, [], []), (.iload_n 2, 1, [], []), (.invokevirtual 7, 3, [], [7, 3, 0, 30]), (.dup, 1, [], []), (.ldc 0, 2, [], [0, 1099511627777]), (.if_icmp .eq 0, 3, [], [50]), (.dup, 1, [], []), (.ldc 0, 2, [], [0, 1099511627778]), (.if_icmp .eq 0, 3, [], [60]), (.istore 4, 2, [], []), (.aload_n 3, 1, [], []), (.iconst 0, 1, [], []), (.iload 4, 2, [], []), (.i2l, 1, [], []), (.lastore, 1, [], []), (.iconst 0, 1, [], []), (.ireturn, 1, [], [0])] _ _ _ _ (by decide +kernel)).trans rfl
theorem e254l_50 (d : Nat) (x0 x1 x2 x3 r1 : Int) (h : Hp) : V d 254 50 [(2, x0), (0, x1), (0, x2), (2, x3), (9, 0)] [(0, r1)] h = some ((0, 1), h) := (V_blk d 254 [] (by decide +kernel) [(.pop, 1, [], []), (.iconst 1, 1, [], []), (.ireturn, 1, [], [0])] _ _ _ _ (by decide +kernel)).trans rfl
theorem e254l_60 (d : Nat) (x0 x1 x2 x3 r1 : Int) (h : Hp) : V d 254 60 [(2, x0), (0, x1), (0, x2), (2, x3), (9, 0)] [(0, r1)] h = some ((0, 2), h) := (V_blk d 254 [] (by decide +kernel) [(.pop, 1, [], []), (.iconst 2, 1, [], []), (.ireturn, 1, [], [0])] _ _ _ _ (by decide +kernel)).trans rfl
theorem loc_254 (x0 x1 x2 x3 : Int) : loc0 254 [(2, x0), (0, x1), (0, x2), (2, x3)] = [(2, x0), (0, x1), (0, x2), (2, x3), (9, 0)] := by
  unfold loc0; rw [nlo_254]; rfl
theorem inv_254 {d : Nat} {x0 x1 x2 x3 : Int} {h : Hp} {r : MR} (e : C d 254 [(2, x0), (0, x1), (0, x2), (2, x3)] h = some r) :
    okF h x0 30 = true ∧ ∃ (d' : Nat) (v : Int) (h1 : Hp), d = d' + 1 ∧ C d' 7 [(2, x0), (0, x1), (0, x2)] h = some ((0, v), h1) ∧ ((v = 1099511627777 ∧ r = ((0, 1), h1)) ∨ (v = 1099511627778 ∧ r = ((0, 2), h1)) ∨ ((v ≠ 1099511627777 ∧ v ≠ 1099511627778) ∧ okW h1 x3 1 = true ∧ (0 : Int) < len h1 x3 ∧ r = ((0, 0), st h1 x3 0 v))) := by
  have e := (C_fit e).2
  rw [loc_254, e254l_0] at e
  split at e
  case isFalse => cases e
  split at e
  case isFalse => cases e
  rename_i ho
  refine ⟨ho, ?_⟩
  cases d with
  | zero => cases e
  | succ d' =>
    change (C d' 7 [(2, x0), (0, x1), (0, x2)] h).bind _ = some r at e
    cases hC : C d' 7 [(2, x0), (0, x1), (0, x2)] h with
    | none => rw [hC] at e; cases e
    | some w =>
      obtain ⟨⟨t, v⟩, h1⟩ := w
      rw [hC] at e
      change (if t = 0 then _ else none) = some r at e
      split at e
      case isFalse => cases e
      rename_i ht
      subst ht
      refine ⟨d', v, h1, rfl, hC, ?_⟩
      dsimp only at e
      split at e
      · rename_i hv
        rw [e254l_50] at e
        cases e
        exact Or.inl ⟨hv, rfl⟩
      · rename_i hn1
        split at e
        · rename_i hv
          rw [e254l_60] at e
          cases e
          exact Or.inr (Or.inl ⟨hv, rfl⟩)
        · rename_i hn2
          split at e
          case isFalse => cases e
          split at e
          case isFalse => cases e
          rename_i a b
          cases e
          exact Or.inr (Or.inr ⟨⟨hn1, hn2⟩, a, b.2, rfl⟩)
theorem ml_a {d z pc : Nat} {k : Fin 4} {ls st : List MV} {h : Hp} {r : MR} (hc : cd z pc = some (.aload_n k, 1, [], [])) (e : V d z pc ls st h = some r) : ∃ x, ls[k.val]? = some (2, x) ∧ V d z (pc + 1) ls ((2, x) :: st) h = some r := by
  rw [V_step hc] at e
  dsimp only [exK, kil, List.foldl_nil] at e
  split at e
  · exact ⟨_, by assumption, e⟩
  · cases e
theorem as_254 {d : Nat} {as : List MV} {h : Hp} {r : MR} (hl : as.length = 4) (e : C d 254 as h = some r) : ∃ x0 x1 x2 x3 : Int, as = [(2, x0), (0, x1), (0, x2), (2, x3)] ∧ x3 ≠ 0 := by
  have e := (C_fit e).2
  obtain ⟨x3, h3, e⟩ := ml_a (k := 3) (by decide +kernel) e
  rw [V_step (show cd 254 1 = some (.arraylength, 1, [], [1]) by decide +kernel)] at e
  change (if okF h x3 (Int.toNat 1) = true then V d 254 (1 + 1) (loc0 254 as) [(0, len h x3)] h else none) = some r at e
  split at e
  case isFalse => cases e
  rename_i ho
  rw [V_step (show cd 254 2 = some (.pop, 1, [], []) by decide +kernel)] at e
  change V d 254 (2 + 1) (loc0 254 as) [] h = some r at e
  obtain ⟨x0, h0, e⟩ := ml_a (k := 0) (by decide +kernel) e
  obtain ⟨x1, h1, e⟩ := ml_i (k := 1) (by decide +kernel) e
  obtain ⟨x2, h2, e⟩ := ml_i (k := 2) (by decide +kernel) e
  obtain ⟨n, -, -, hx3⟩ := okF_sh ho
  match as, hl with
  | [(t0, y0), (t1, y1), (t2, y2), (t3, y3)], _ =>
    have q0 : (loc0 254 [(t0, y0), (t1, y1), (t2, y2), (t3, y3)])[0]? = some (t0, y0) := by rcases t0 with _ | _ | t0 <;> rfl
    have q0 := q0.symm.trans h0
    cases q0
    have q1 : (loc0 254 [(2, x0), (t1, y1), (t2, y2), (t3, y3)])[1]? = some (t1, y1) := by rcases t1 with _ | _ | t1 <;> rfl
    have q1 := q1.symm.trans h1
    cases q1
    have q2 : (loc0 254 [(2, x0), (0, x1), (t2, y2), (t3, y3)])[2]? = some (t2, y2) := by rcases t2 with _ | _ | t2 <;> rfl
    have q2 := q2.symm.trans h2
    cases q2
    have q3 : (loc0 254 [(2, x0), (0, x1), (0, x2), (t3, y3)])[3]? = some (t3, y3) := by rcases t3 with _ | _ | t3 <;> rfl
    have q3 := q3.symm.trans h3
    cases q3
    exact ⟨x0, x1, x2, x3, rfl, hx3⟩
section LL
variable {p : Program} {l : Launch} {e : Env} {R : Room} {s : State} {m : MethodId} {args : Array Value} {below : List Frame} {meth : Method} {c : Code} {Q : State → Prop} {g : GG} {y c0 s0 pc : Nat} {ls r : List MV} {h : Hp}
theorem go_callX {H : Heap} {locs : List Loc} {cells slots mc ms : Nat} {lsR : Array Slot} {st0 rest : List Value} {a : Array Value} {v : MV} {h' : Hp} (hr : vx_Run p l e R s m args below meth c H locs cells slots mc ms (F0 m pc lsR st0) rest (Qcall g v h' a) (XCall g v h') (gA g)) (hS : va_S (gA g) s.heap H locs)
    (kx : ∀ (E : String) (q9 : Addr) (ce : Cell) (H1 : Heap) (locs1 : List Loc), mkE v E → RSl g h' H1 → va_S (gA g) s.heap H1 locs1 → H1[q9]? = some ce → ce.vm = .none → s.vm.findClass E = some ce.cls → vx_W p l e R s m args below meth c H1 locs1 (cells + mc) (slots + ms) Q (F0 m pc lsR rest) q9)
    (kk : ∀ (H1 : Heap) (locs1 : List Loc), RSl g h' H1 → (v.1 ≠ 9 → vok v) → va_S (gA g) s.heap H1 locs1 → W p l e R s m args below meth c H1 locs1 (cells + mc) (slots + ms) Q (F0 m (pc + 3) lsR ((rvO g v).toList ++ rest))) : W p l e R s m args below meth c H locs cells slots Q (F0 m pc lsR st0) := by
  intro T hT X
  rcases hr T hT X with ⟨w, st₀, t, T', L, h0, X', hL, e1, e2, ⟨hv, hvk, hRS, hz, hk⟩, stp⟩ | ⟨q, st₀, t, T', L, E, ce, h0, X', hL, e1, e2, ⟨hE, hRS, hz, hk⟩, hce, hcv, hcl, stp⟩
  · cases hv
    rw [h0] at hz hk
    obtain ⟨t2, a1, b1⟩ := kk T'.heap (locs ++ L) (by rw [e1]; exact hRS) hvk
      ⟨Nat.le_trans hS.1 (by rw [e1]; exact hz), fun q h1 h2 => by rw [e1, hk q (Nat.lt_of_lt_of_le h1 hS.1) h2]; exact hS.2.1 q h1 h2, fun q hq => by
        rcases List.mem_append.mp hq with h | h
        · exact hS.2.2 q h
        · exact hL q h⟩ T' rfl X'
    exact ⟨t2, stp t2 a1, b1⟩
  · rw [h0] at hz hk
    obtain ⟨t2, a1, b1⟩ := kx E q ce T'.heap (locs ++ L) hE (by rw [e1]; exact hRS)
      ⟨Nat.le_trans hS.1 (by rw [e1]; exact hz), fun q h1 h2 => by rw [e1, hk q (Nat.lt_of_lt_of_le h1 hS.1) h2]; exact hS.2.1 q h1 h2, fun q hq => by
        rcases List.mem_append.mp hq with h | h
        · exact hS.2.2 q h
        · exact hL q h⟩ (by rw [e1]; exact hce) hcv hcl T' rfl X'
    exact ⟨t2, stp.trans a1, b1⟩
theorem lrel_hd {x0 x1 x2 x3 : Int} {lsR ls' : Array Slot} {q9 : Nat} (hl : lrel g (nlo 254) [(2, x0), (0, x1), (0, x2), (2, x3), (9, 0)] lsR)
    (hls : lv_has ls' (nlo 254) ((4, Value.ref q9) :: (pic g [(2, x0), (0, x1), (0, x2), (2, x3), (9, 0)]).filter (fun q => !(q.1 == 4) && !(q.1 + 1 == 4 && q.2.category == 2)))) : lrel g (nlo 254) [(2, x0), (0, x1), (0, x2), (2, x3), (9, 0)] ls' := by
  refine ⟨⟨hls.1, hls.2.1, fun q hq => hls.2.2 q (List.mem_cons_of_mem _ (List.mem_filter.mpr ⟨hq, ?_⟩))⟩, hl.2.1, hl.2.2⟩
  obtain ⟨v, q1, q2, q3⟩ := (pic_mem g).mp hq
  simp only [Bool.and_eq_true, Bool.not_eq_true', beq_eq_false_iff_ne, ne_eq, Bool.and_eq_false_iff]
  refine ⟨fun h4 => ?_, ?_⟩
  · rw [h4] at q1; cases q1; exact absurd q2 (by decide)
  · by_cases h4 : q.1 + 1 = 4
    · have h3 : q.1 = 3 := by omega
      rw [h3] at q1; cases q1
      exact Or.inr (by rw [q3, cv_cat1 g (show ((2 : Nat), x3).1 ≠ 1 from (by decide : (2 : Nat) ≠ 1))]; decide)
    · exact Or.inl h4
theorem call_7 (C : Ctx p l s m args meth c g 254) {d : Nat} {x0 x1 x2 x3 v : Int} {h1 : Hp} (hX : MetX l g d [(2, x0), (0, x1), (0, x2)] h (0, v) h1) (ho : okF h x0 30 = true) (hcs : CXs s) (htb : c.exceptionTable.toList = tableOf hL) (hRm : d + 3 ≤ R.frames ∧ 44 * (d + 1) + 80 ≤ R.locals) (hRc : cnt h1 - c0 ≤ R.cells ∧ ssum h1 - s0 ≤ R.slots ∧ cnt h ≤ cnt h1 ∧ ssum h ≤ ssum h1)
    (k1 : v = 1099511627777 → G2 p l e R s m args below meth c Q g 254 c0 s0 15 [(2, x0), (0, x1), (0, x2), (2, x3), (9, 0)] [] h1) (k2 : v = 1099511627778 → G2 p l e R s m args below meth c Q g 254 c0 s0 19 [(2, x0), (0, x1), (0, x2), (2, x3), (9, 0)] [] h1)
    (kk : InR v → G2 p l e R s m args below meth c Q g 254 c0 s0 8 [(2, x0), (0, x1), (0, x2), (2, x3), (9, 0)] [(0, v), (0, 0), (2, x3)] h1) : G2 p l e R s m args below meth c Q g 254 c0 s0 5 [(2, x0), (0, x1), (0, x2), (2, x3), (9, 0)] [(0, x2), (0, x1), (2, x0), (0, 0), (2, x3)] h := by
  intro lsR H locs hR hl hv hS hc hs
  have C' := C
  obtain ⟨a1, a2, a3, a4, a5, a6, a7, a8, a9, a10⟩ := C'
  rw [cn_254] at a4
  have hT : ∀ w ∈ TW, w.before args s = true := fun w hw => by obtain ⟨h1, h2⟩ := List.mem_filter.mp hw; exact a5 w h1 h2
  have hm := mp_7
  have hm' := hm
  obtain ⟨m1, m2, ⟨m3, m3', m4⟩, m5, m6, m7⟩ := hm
  have m7 : nlo 7 ≤ 24 := m7
  obtain ⟨ra, cell, r1, r2, r3, r4⟩ := rd_recv a6 hS hR (by decide) ho
  rw [cls_7] at r4
  have ha : cv g (2, x0) = .ref ra := r1
  have hPc := pc_of a6 hS hR [(2, x0), (0, x1), (0, x2)]
  rw [List.map_cons, ha] at hPc
  have hCB : CallB R s args "PaidFacesLaw" 7 (yN 7) (yB 7) (nlo 7) (yR 7) (yWs 7) ({ frames := d + 2, cells := cnt h1 - cnt h, slots := ssum h1 - ssum h, locals := 44 * d + 80 }) (cnt h1 - cnt h) (ssum h1 - ssum h) 2 :=
    ⟨rfl, rfl, hRm.1, by show 8 + (nlo 7 + 11) + (44 * d + 80) ≤ _; omega, tws_warm hT hm', List.mem_cons_self, a5 _ m1 rfl, a5 _ m2 rfl, ⟨m3, m3'⟩, fun sig hs => by rw [hs] at m4; exact (Option.some.inj m4).symm, a5 _ lk_7 rfl⟩
  have hfix : CallFix p m c (yB 254) (nlo 254) s args TW "PaidFacesLaw" := by
    have := callFix C
    rw [cn_254] at this
    exact this
  show W p l e R s m args below meth c H locs (cnt h - c0) (ssum h - s0) Q (F0 m 5 lsR (([(0, x1), (0, x2)].map (cv g)).reverse ++ cv g (2, x0) :: [(0, 0), (2, x3)].map (cv g)))
  rw [ha]
  have hgo : vx_Run p l e R s m args below meth c H locs (cnt h - c0) (ssum h - s0) (cnt h1 - cnt h) (ssum h1 - ssum h) (F0 m 5 lsR (([(0, x1), (0, x2)].map (cv g)).reverse ++ .ref ra :: [(0, 0), (2, x3)].map (cv g))) ([(0, 0), (2, x3)].map (cv g)) (Qcall g (0, v) h1 (Value.ref ra :: [(0, x1), (0, x2)].map (cv g)).toArray) (XCall g (0, v) h1) (gA g) := by
    have hrm := lv_room (m := m) (pc := 5) (ls := lsR) (rest := ([(0, x1), (0, x2)].map (cv g)).reverse ++ .ref ra :: [(0, 0), (2, x3)].map (cv g)) (st := [(0, 0), (2, x3)].map (cv g)) (by rw [cat_sum]; exact (by decide : (1 + (1 + 0) : Nat) ≤ 8))
    exact vx_runV hfix hX ⟨hCB, a5 _ im_7 rfl, a5 _ se_7 rfl⟩ ⟨fun a U f mk hp => ⟨Pcall_blind g _ h a U f mk hp.1, hp.2.moved (show U.vm.Alike (U.calling f mk a).vm from Vm.Alike.refl _)⟩, ⟨cell, r2, r3, r4⟩, fun U hU hW => ⟨hPc U hU hW, hcs.moved hW.alike⟩⟩ rfl rfl hl.1.1 rfl hrm (show decode (yB 254) 5 = .ok (.invokevirtual 7, 3) by decide +kernel) ⟨by omega, by omega⟩
  refine go_callX hgo hS (fun E q9 ce H1 locs1 hmk hR1 hS1 hce hcv hcl => ?_) (fun H1 locs1 hR1 hv1 hS1 => ?_)
  · rw [show cnt h - c0 + (cnt h1 - cnt h) = cnt h1 - c0 by omega, show ssum h - s0 + (ssum h1 - ssum h) = ssum h1 - s0 by omega]
    rcases hmk with ⟨hve, rfl⟩ | ⟨hve, rfl⟩
    · refine vx_catch (own := "PaidFacesLaw") (name := exI) (E := exI) a4 [] ⟨0, 10, 13, 13⟩ [⟨0, 10, 17, 15⟩] htb (fun z hz => nomatch hz) (by decide) (by decide) (a5 _ cl_13 rfl) (hcs.word (by decide) args) hce hcv hcl ?_
      refine lv_astore (i := 4) (cc := yB 254) (nL := nlo 254) a1 a2 (by decide +kernel) hl.1 (by rw [nlo_254]; decide) rfl fun ls' hls => ?_
      exact k1 (congrArg Prod.snd hve) ls' H1 locs1 hR1 (lrel_hd hl hls) (fun w hw => absurd hw List.not_mem_nil) hS1 (by omega) (by omega)
    · refine vx_catch (own := "PaidFacesLaw") (name := exN) (E := exN) a4 [⟨0, 10, 13, 13⟩] ⟨0, 10, 17, 15⟩ [] htb (fun z hz => ?_) (by decide) (by decide) (a5 _ cl_15 rfl) (hcs.word (by decide) args) hce hcv hcl ?_
      · rw [List.mem_singleton.mp hz]
        exact Or.inr ⟨by decide, exI, a5 _ cl_13 rfl, hcs.2⟩
      refine lv_astore (i := 4) (cc := yB 254) (nL := nlo 254) a1 a2 (by decide +kernel) hl.1 (by rw [nlo_254]; decide) rfl fun ls' hls => ?_
      exact k2 (congrArg Prod.snd hve) ls' H1 locs1 hR1 (lrel_hd hl hls) (fun w hw => absurd hw List.not_mem_nil) hS1 (by omega) (by omega)
  · rw [show cnt h - c0 + (cnt h1 - cnt h) = cnt h1 - c0 by omega, show ssum h - s0 + (ssum h1 - ssum h) = ssum h1 - s0 by omega]
    have hv0 : vok (0, v) := hv1 (by decide : (0 : Nat) ≠ 9)
    exact kk (hv0.1 rfl) lsR H1 locs1 hR1 hl (vcs hv0 (vtl (vtl (vtl hv)))) hS1 (by omega) (by omega)
theorem ret_254 (C : Ctx p l s m args meth c g 254) {x : Int} (hdg : decode (yB 254) pc = .ok (.ireturn, 1)) : G2 p l e R s m args below meth c (MQ below (Qcall g (0, x) h) args s (cnt h - c0) (ssum h - s0) (gA g)) g 254 c0 s0 pc ls [(0, x)] h :=
  end_ok (K := fun _ _ _ _ => none) (Cl := fun _ _ _ _ _ _ _ => none) (ins := .ireturn) (ax := [0]) (ln := 1) (kl := []) (r0 := ((0, x), h)) C (by show (true && decide (((0 : Int) = 0 ∧ yR 254 = some FieldType.int) ∨ ((0 : Int) = 1 ∧ yR 254 = some FieldType.boolean) ∨ ((0 : Int) = 2 ∧ yR 254 = some FieldType.char) ∨ ((0 : Int) = 3 ∧ yR 254 = some FieldType.byte))) = true; rw [yr_254]; decide) hdg rfl rfl rfl
end LL
theorem met_254 {l : Launch} {g : GG} {d : Nat} {x0 x1 x2 x3 : Int} {h : Hp} {r : MR} (hfl : l.stackTraces = false) (hd : 5 ≤ d) (hv : ∀ w ∈ [(2, x0), (0, x1), (0, x2), (2, x3)], vok w) (h3 : x3 ≠ 0) (e : C d 254 [(2, x0), (0, x1), (0, x2), (2, x3)] h = some r) : MetL l g d [(2, x0), (0, x1), (0, x2), (2, x3)] h r.1 r.2 := by
  have hfit := (C_fit e).1
  obtain ⟨ho, d', v, h1, rfl, hC, hr⟩ := inv_254 e
  have hX := metx_7 (g := g) hfl (d := d') (by omega) (fun w hw => hv w (by
    rcases List.mem_cons.mp hw with q | hw
    · rw [q]; exact List.mem_cons_self
    · rcases List.mem_cons.mp hw with q | hw
      · rw [q]; exact List.mem_cons_of_mem _ List.mem_cons_self
      · rw [List.mem_singleton.mp hw]; exact List.mem_cons_of_mem _ (List.mem_cons_of_mem _ List.mem_cons_self))) hC
  have hup : up h h1 := by
    obtain ⟨n, hn⟩ := V_iff.mp (C_fit hC).2
    exact run_up n hn
  have hr2 : cnt r.2 = cnt h1 ∧ ssum r.2 = ssum h1 := by
    rcases hr with ⟨-, rfl⟩ | ⟨-, rfl⟩ | ⟨-, -, -, rfl⟩ <;> exact ⟨rfl, rfl⟩
  unfold MetL
  refine va_MetW (cc := yB 254) (maxL := 5) (ret := some .int) (hh := hL) (ws' := TW) (by rw [cls_254]; decide +kernel) rfl ?_
  intro p e s m args below meth c s₁ B hml hP
  obtain ⟨⟨rfl, hRS, hKN, hsz⟩, hcs⟩ := hP
  have hts := atoms_spec (ws := wsL) B.pre
  have htb : c.exceptionTable.toList = tableOf hL := vx_table (x := yN 254) B (hts _ List.mem_cons_self)
  have hown : s.vm.findClass (yN 254).cls = some m.cls := findClass_of_methodNamed B.named
  have hCtx : Ctx p l s m ([(2, x0), (0, x1), (0, x2), (2, x3)].map (cv g)).toArray meth c g 254 := ⟨B.exec, B.bytes, by rw [nlo_254]; exact hml, by rw [cn_254, ← cls_254]; exact hown, fun w hw hg => hts w (List.mem_cons_of_mem _ (tw_in hw hg)), hKN, by rw [yr_254]; exact B.returns, fun hn => (name_of_methodNamed B.named B.method).1.trans hn, B.notSynchronized, hsz⟩
  have K : G2 p l e (headSpec wsL { frames := d' + 1 + 2, cells := cnt r.2 - cnt h, slots := ssum r.2 - ssum h, locals := 44 * (d' + 1) + 80 }).room s m ([(2, x0), (0, x1), (0, x2), (2, x3)].map (cv g)).toArray below meth c (MQ below (Qcall g r.1 r.2) ([(2, x0), (0, x1), (0, x2), (2, x3)].map (cv g)).toArray s (cnt r.2 - cnt h) (ssum r.2 - ssum h) (gA g)) g 254 (cnt h) (ssum h) 0 [(2, x0), (0, x1), (0, x2), (2, x3), (9, 0)] [] h := by
    refine s_aload_n (n := 3) hCtx rfl (by decide +kernel) ?_
    refine s_iconst (n := 0) hCtx (by decide) (by decide +kernel) ?_
    refine s_aload_n (n := 0) hCtx rfl (by decide +kernel) ?_
    refine s_iload_n (n := 1) hCtx rfl (by decide +kernel) ?_
    refine s_iload_n (n := 2) hCtx rfl (by decide +kernel) ?_
    refine call_7 hCtx hX ho hcs htb ⟨Nat.le_refl _, Nat.le_refl _⟩ ⟨by show cnt h1 - cnt h ≤ cnt r.2 - cnt h; omega, by show ssum h1 - ssum h ≤ ssum r.2 - ssum h; omega, hup.1, hup.2⟩ (fun hv1 => ?_) (fun hv2 => ?_) (fun hin => ?_)
    · rcases hr with ⟨-, rfl⟩ | ⟨h2, -⟩ | ⟨a0, a1, a2, rfl⟩
      · refine s_iconst (n := 1) hCtx (by decide) (by decide +kernel) ?_
        exact ret_254 hCtx (by decide +kernel)
      · omega
      · exact absurd hv1 a0.1
    · rcases hr with ⟨h2, -⟩ | ⟨-, rfl⟩ | ⟨a0, a1, a2, rfl⟩
      · omega
      · refine s_iconst (n := 2) hCtx (by decide) (by decide +kernel) ?_
        exact ret_254 hCtx (by decide +kernel)
      · exact absurd hv2 a0.2
    · rcases hr with ⟨h2, -⟩ | ⟨h2, -⟩ | ⟨a0, a1, a2, rfl⟩
      · unfold InR at hin; omega
      · unfold InR at hin; omega
      · refine s_i2l hCtx (by decide +kernel) ?_
        refine s_lastore hCtx a1 ⟨Int.le_refl 0, a2⟩ (by decide +kernel) ?_
        refine s_goto (f := 11) (t := 21) hCtx (by decide) (by decide +kernel) ?_
        refine s_iconst (n := 0) hCtx (by decide) (by decide +kernel) ?_
        exact ret_254 hCtx (by decide +kernel)
  rw [lg_entry_eq]
  have hle := lrel_entry g hfit hv
  rw [loc_254, nlo_254] at hle
  have := K _ s.heap [] hRS (by rw [nlo_254]; exact hle) (fun v hv => absurd hv List.not_mem_nil) ⟨Nat.le_refl _, fun _ _ _ => rfl, fun q hq => absurd hq List.not_mem_nil⟩ (Nat.le_refl _) (Nat.le_refl _)
  rw [Nat.sub_self, Nat.sub_self] at this
  exact this
