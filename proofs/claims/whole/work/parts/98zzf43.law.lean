/-! THE CLAIM OUT OF ONE WALK OF THE LAW'S BODY. Your part is whole_start (and what it stands on); all else here is the same for every law, but numbers. -/
def R_law : String := "PaidFacesLaw"
def lw_P (b : Addr) (xs : List Int32) (args : Array Value) (s : State) : Prop := args = #[.ref b] ∧ s.IntsAt b xs ∧ xs.length ≤ 3072 ∧ (Jvm.Cond.and given_1 narrow_1).before args s = true
def lw_Q (_ : Array Value) (s : State) (o : Outcome) (t : State) : Prop := o = .returned (some (.int 1)) ∧ Framed s o t [] 601024 7293033
def lw_Z (below : List Frame) (a : Array Value) (s : State) : State → Prop := fun t => ∃ o, t.status = .running ∧ Ended t below o ∧ lw_Q a s o t
/-- the law's own end, with 1 on the stack, nothing written that was there before, its room as the claim has it -/
theorem lw_ret {p : Program} {l : Launch} {e : Env} {s : State} {m : MethodId} {below : List Frame} {meth : Method} {c : Code} {b : Nat} (hx : p.tables.exec = Jvm.exec) (hb : c.code = code) (hr : meth.sig.returnType = ret) (hlocks : meth.locks = false) {pc : Nat} {H : Heap} {ls : Array Slot} (hdg : decode code pc = .ok (.ireturn, 1)) : W p l e room_1 s m #[Value.ref b] below meth c H [] 601024 7293033 (lw_Z below #[Value.ref b] s) (F0 m pc ls [.int 1]) := by
  intro T hT X
  obtain ⟨fs, hret, hrun, hended, hW, hframe⟩ := X.leave (v := some (.int 1)) (hlocks := hlocks) (fun h => by rw [hr] at h; cases h)
  have hmeth' : T.vm.method? m = some meth := X.method'
  refine ⟨T.setFrames fs, ?_, .returned (some (.int 1)), hrun, hended, rfl, ⟨_, rfl⟩, hW, hframe⟩
  jvm_step X.here [X.here.top, hx, hb, hdg, hmeth', hr, ret, narrow_b1]
  (try refine ⟨rfl, ?_⟩); (try refine ⟨rfl, ?_⟩)
  first | (intro acts; rw [hret _ acts rfl rfl rfl]) | rw [hret _ _ rfl rfl rfl]
  exact Steps.refl _
/-- what holds at the law's entry: the machine, the code, the tables' words (any of lw_tbl by 'hts w (by decide +kernel)'), the script of L ints xs at the cell b, what the Statement gives of the start (any of its parts by flat_of_before) -/
def lw_At (p : Program) (s : State) (m : MethodId) (meth : Method) (c : Code) (b L : Nat) (xs : Nat → Int32) : Prop :=
  p.tables.exec = Jvm.exec ∧ c.code = code ∧ meth.sig.returnType = ret ∧ c.maxLocals = 7 ∧ s.vm.findClass R_law = some m.cls ∧ (∀ w ∈ lw_tbl, w.before #[Value.ref b] s = true) ∧ va_X b L xs s s.heap ∧ b < s.heap.size ∧ meth.locks = false ∧ (Jvm.Cond.and given_1 narrow_1).before #[Value.ref b] s = true
/-! the law's body: a run of the small machine that answers 1 is the claim -/
theorem x0b : m_0.all (fun q => !isEnd q.2.1 q.2.2.2.2 || (decide (q.2.1 = .ireturn ∧ q.2.2.1 = 1 ∧ q.2.2.2.2 = [1]) || decide (q.1 = 342 ∧ q.2.1 = .invokestatic 39 ∧ q.2.2.1 = 3 ∧ q.2.2.2.2 = [254, 4, 0]))) = true := by decide +kernel
theorem yb_0 : yB 0 = code := rfl
theorem yr_0 : yR 0 = some .boolean := by decide +kernel
theorem cn_0 : CN (yO 0) = "PaidFacesLaw" := by decide +kernel
theorem nlo_0 : nlo 0 = 7 := by decide +kernel
theorem nm_0 : (yN 0).name = "law" := by decide +kernel
set_option maxRecDepth 10000 in
theorem lk_254 : Cond.methodLink "PaidFacesLaw" 39 (yN 254) ∈ lw_tbl := tb_5 _ (List.mem_of_getElem? (i := 177) rfl)
set_option maxRecDepth 10000 in
theorem st_254 : Cond.static (yN 254) ∈ lw_tbl := tb_5 _ (List.mem_of_getElem? (i := 178) rfl)
set_option maxRecDepth 10000 in
theorem cw_254 : Cond.codeWith (yN 254) (yB 254) 5 (some .int) hL ∈ lw_tbl := tb_5 _ (List.mem_of_getElem? (i := 179) rfl)
set_option maxRecDepth 10000 in
theorem in_0 : Cond.initialized "PaidFacesLaw" ∈ lw_tbl := tb_1 _ (List.mem_of_getElem? (i := 0) rfl)
theorem pd_254 : (parseMethodDescriptor (yN 254).desc).map (fun d => d.parameters.length) = some 4 := by decide +kernel
section LW
variable {p : Program} {l : Launch} {e : Env} {R : Room} {s : State} {m : MethodId} {args : Array Value} {below : List Frame} {meth : Method} {c : Code} {Q : State → Prop} {g : GG} {y c0 s0 pc : Nat} {ls r : List MV} {h : Hp}
theorem s_look (CX : Ctx p l s m args meth c g 0) (hcs : CXs s) (hfl : l.stackTraces = false) {d : Nat} (hd : 5 ≤ d) {as : List MV} {v : MV} {h' : Hp} (hC : C d 254 as h = some (v, h')) (hq : v.1 = 0) (hlen : as.length = 4) (hr8 : rsum r ≤ 8) (hRm : d + 3 ≤ R.frames ∧ 44 * (d + 1) + 80 ≤ R.locals) (hRc : cnt h' - c0 ≤ R.cells ∧ ssum h' - s0 ≤ R.slots)
    (hdg : decode (yB 0) pc = .ok (.invokestatic 39, 3)) (kk : G2 p l e R s m args below meth c Q g 0 c0 s0 (pc + 3) ls ((0, v.2) :: r) h') : G2 p l e R s m args below meth c Q g 0 c0 s0 pc ls (as.reverse ++ r) h := by
  obtain ⟨x0, x1, x2, x3, rfl, hx3⟩ := as_254 hlen hC
  have hup : up h h' := by
    obtain ⟨n, hn⟩ := V_iff.mp (C_fit hC).2
    exact run_up n hn
  intro lsR H locs hR hl hv hS hc hs
  have hva : ∀ w ∈ ([(2, x0), (0, x1), (0, x2), (2, x3)] : List MV), vok w := fun w hw => hv w (List.mem_append_left _ (List.mem_reverse.mpr hw))
  have hM : MetL l g d [(2, x0), (0, x1), (0, x2), (2, x3)] h v h' := met_254 (g := g) (r := (v, h')) hfl hd hva hx3 hC
  rw [rev_app]
  obtain ⟨a1, a2, a3, a4, a5, a6, a7, a8, a9, a10⟩ := id CX
  rw [cn_0] at a4
  have hT : ∀ w ∈ TW, w.before args s = true := fun w hw => by obtain ⟨h1, h2⟩ := List.mem_filter.mp hw; exact a5 w h1 h2
  have hfix : CallFix p m c (yB 0) (nlo 0) s args TW "PaidFacesLaw" := by
    have := callFix CX
    rw [cn_0] at this
    exact this
  have hpay : ∀ w ∈ wsL, ∀ (a' : Array Value) (U : State), s.WarmedH U.vm → w.before a' U = true := pay_in hT (fun w hw => by
    rcases List.mem_cons.mp hw with q | q
    · rw [q]; exact ⟨tw_in cw_254 rfl, good_of_word rfl⟩
    · exact ⟨q, good_of_word (by obtain ⟨-, h2⟩ := List.mem_filter.mp q; exact h2)⟩)
  have hcw : vx_CSW R s args "PaidFacesLaw" 39 (yN 254) (yB 254) 5 (some .int) hL wsL ({ frames := d + 2, cells := cnt h' - cnt h, slots := ssum h' - ssum h, locals := 44 * d + 80 }) (cnt h' - cnt h) (ssum h' - ssum h) 4 :=
    ⟨⟨rfl, rfl, hRm.1, by show 8 + (5 + 11) + (44 * d + 80) ≤ _; omega, hpay, List.mem_cons_self⟩, a5 _ cw_254 rfl, by rw [cls_254]; exact a5 _ in_0 rfl, by rw [cls_254]; exact ⟨by decide, by decide⟩, fun sig hs => by have := pd_254; rw [hs] at this; exact (Option.some.inj this).symm, a5 _ lk_254 rfl, a5 _ st_254 rfl⟩
  have hPc := pc_of a6 hS hR [(2, x0), (0, x1), (0, x2), (2, x3)]
  have hgo : va_Run p l e R s m args below meth c H locs (cnt h - c0) (ssum h - s0) (cnt h' - cnt h) (ssum h' - ssum h) (F0 m pc lsR (([(2, x0), (0, x1), (0, x2), (2, x3)].map (cv g)).reverse ++ r.map (cv g))) (r.map (cv g)) (Qcall g v h' ([(2, x0), (0, x1), (0, x2), (2, x3)].map (cv g)).toArray) (gA g) := by
    have hrm := lv_room (m := m) (pc := pc) (ls := lsR) (rest := ([(2, x0), (0, x1), (0, x2), (2, x3)].map (cv g)).reverse ++ r.map (cv g)) (st := r.map (cv g)) (by rw [cat_sum]; exact hr8)
    exact vx_runSW hfix hM hcw ⟨fun a U f mk hp => ⟨Pcall_blind g _ h a U f mk hp.1, hp.2.moved (show U.vm.Alike (U.calling f mk a).vm from Vm.Alike.refl _)⟩, fun U hU hW => ⟨hPc U hU hW, hcs.moved hW.alike⟩⟩ rfl rfl hl.1.1 rfl hrm hdg ⟨by have := hup.1; omega, by have := hup.2; omega⟩
  refine go_call hgo hS fun H1 locs1 hR1 hv1 hS1 => ?_
  have u1 := hup.1
  have u2 := hup.2
  rw [show cnt h - c0 + (cnt h' - cnt h) = cnt h' - c0 by omega, show ssum h - s0 + (ssum h' - ssum h) = ssum h' - s0 by omega]
  have hvr : ∀ w ∈ r, vok w := fun w hw => hv w (List.mem_append.mpr (Or.inr hw))
  have h9 : v.1 ≠ 9 := by rw [hq]; decide
  have := kk lsR H1 locs1 hR1 hl (vcs (by have := hv1 h9; obtain ⟨t, x⟩ := v; cases hq; exact this) hvr) hS1 (by omega) (by omega)
  unfold rvO
  rw [if_neg h9]
  obtain ⟨t, x⟩ := v
  cases hq
  exact this
theorem end_0 {b : Nat} {d : Nat} {r0 : MR} (CX : Ctx p l s m #[Value.ref b] meth c g 0) (hcs : CXs s) (hfl : l.stackTraces = false) (hg : gN g = s.heap.size) (hd : 6 ≤ d ∧ d ≤ 1800) (h1 : r0.1 = (0, 1)) (hRc : cnt r0.2 ≤ 601024 ∧ ssum r0.2 ≤ 7293033) :
    EndOk p l e room_1 s m #[Value.ref b] below meth c (lw_Z below #[Value.ref b] s) g d 0 0 0 r0 := by
  intro n ih pc ls st h en hc hE he
  obtain ⟨o1, o2, o3⟩ := okm_0 pc en hc
  obtain ⟨ins, ln, kl, ax⟩ := en
  have hm : (pc, (ins, ln, kl, ax)) ∈ m_0 := lookup_mem hc
  have hx := List.all_eq_true.mp x0b _ hm
  dsimp only at hx hE he
  rw [hE] at hx
  simp only [Bool.not_true, Bool.false_or, Bool.or_eq_true, decide_eq_true_eq] at hx
  rcases hx with ⟨rfl, rfl, rfl⟩ | ⟨rfl, rfl, rfl, rfl⟩
  · dsimp only [exK] at he
    split at he <;> first | (cases he; done) | skip
    rename_i t x heq
    cases heq
    rw [if_pos rfl] at he
    split at he <;> first | (cases he; done) | skip
    cases he
    have hx1 : x = 1 := congrArg Prod.snd h1
    subst hx1
    intro lsR H locs hR hl hv hS hcc hss
    refine va_forget (fun q hq => by have := hS.2.2 q hq; have : gN g ≤ q.base := this; omega) ?_
    refine W.widen (k := 601024) (n := 7293033) (by have : cnt h ≤ 601024 := hRc.1; omega) (by have : ssum h ≤ 7293033 := hRc.2; omega) ?_
    have hdg : decode code pc = .ok (.ireturn, 1) := o2
    exact lw_ret CX.1 CX.2.1 (by have := CX.2.2.2.2.2.2.1; rw [yr_0] at this; exact this) CX.2.2.2.2.2.2.2.2.1 hdg
  · dsimp only [exK] at he
    split at he <;> first | (cases he; done) | skip
    rename_i hcond
    unfold kC at he
    cases d with
    | zero => cases he
    | succ d =>
      dsimp only at he
      by_cases hfit : (lay (st.take (Int.toNat 4)).reverse).length ≤ nlo (Int.toNat 254)
      case neg => rw [if_neg hfit] at he; cases he
      rw [if_pos hfit] at he
      cases hr : run n d (Int.toNat 254) 0 (loc0 (Int.toNat 254) (st.take (Int.toNat 4)).reverse) [] h with
      | none => rw [hr] at he; cases he
      | some w =>
        obtain ⟨v, h'⟩ := w
        rw [hr] at he
        dsimp only at he
        split at he
        case isFalse => cases he
        rename_i hq
        have hC : C d 254 (st.take 4).reverse h = some (v, h') := (C_of hfit).trans (V_iff.mpr ⟨n, hr⟩)
        have hu := run_up n he
        have hlen : (st.take 4).reverse.length = 4 := by rw [List.length_reverse, List.length_take]; have : 4 ≤ st.length := hcond.1; omega
        have := s_look (R := room_1) (e := e) (below := below) (Q := lw_Z below #[Value.ref b] s) (c0 := 0) (s0 := 0) (ls := ls) (r := st.drop 4) CX hcs hfl (by omega) hC hq hlen hcond.2 ⟨by show d + 3 ≤ 2048; omega, by show 44 * (d + 1) + 80 ≤ 84000; omega⟩ ⟨by show cnt h' - 0 ≤ 601024; have := hu.1; have : cnt r0.2 ≤ 601024 := hRc.1; omega, by show ssum h' - 0 ≤ 7293033; have := hu.2; have : ssum r0.2 ≤ 7293033 := hRc.2; omega⟩ o2 (ih _ _ _ _ he)
        rw [List.reverse_reverse, List.take_append_drop] at this
        exact this
end LW
/-- the heap at the start: nothing made yet -/
def hp0 (xs : Nat → Int32) (L : Nat) : Hp := (fun a j => if a < 0 then gcmC xs a j else 0, ([], (L, 0)))
theorem start_ok {p : Program} {e : Env} {s : State} {m : MethodId} {below : List Frame} {meth : Method} {c : Code} (l : Launch) (hflags : l.flags = flags0) {b L : Nat} {xs : Nat → Int32} (hL : L ≤ 3072) (C0 : lw_At p s m meth c b L xs)
    {d : Nat} (hd : 6 ≤ d ∧ d ≤ 1800) {h' : Hp} (hV : C d 0 [(2, -50)] (hp0 xs L) = some ((0, 1), h')) (hRc : cnt h' ≤ 601024 ∧ ssum h' ≤ 7293033) : W p l e room_1 s m #[Value.ref b] below meth c s.heap [] 0 0 (lw_Z below #[Value.ref b] s) (entryFrame m ([Value.ref b] : List Value).toArray 7) := by
  obtain ⟨hx, hb, hr, hml, hown, hts, hX, hbl, hlocks, hgv⟩ := C0
  have hF : ∀ w ∈ NF, w.before #[Value.ref b] s = true := flat_of_before _ hgv
  obtain ⟨g, g1, g2, g3, g4, hKN, hcs⟩ := KN_start hL hts hF hX hbl
  have hfl : l.stackTraces = false := by
    unfold Launch.stackTraces; rw [hflags]; decide
  obtain ⟨hfit, e0⟩ := C_fit hV
  obtain ⟨n, hn⟩ := V_iff.mp e0
  have hCtx : Ctx p l s m #[Value.ref b] meth c g 0 := ⟨hx, hb, by rw [nlo_0]; exact hml, by rw [cn_0]; exact hown, fun w hw _ => hts w hw, hKN, by rw [yr_0]; exact hr, fun hn => by rw [nm_0] at hn; exact absurd hn (by decide), hlocks, by omega⟩
  have k := run_ok l g hAll_ok hlen_ok n d 0 0 (loc0 0 [(2, -50)]) [] (hp0 xs L) ((0, 1), h') okm_0 hn p e room_1 s m #[Value.ref b] below meth c (lw_Z below #[Value.ref b] s) 0 0 hCtx ⟨by show d + 2 ≤ 2048; omega, by show 44 * d + 80 ≤ 84000; omega⟩ ⟨by show cnt h' - 0 ≤ 601024; omega, by show ssum h' - 0 ≤ 7293033; omega⟩ (end_0 hCtx hcs hfl g1 hd rfl hRc)
  have hRS : RSl g (hp0 xs L) s.heap := by
    refine ⟨fun k x hx => (by cases hx), fun _ => by show s.heap.size = gN g + 0; omega, by show gN g + 0 ≤ s.heap.size; omega, fun sh h => absurd h List.not_mem_nil, fun i sh hi => (by cases hi), fun a j ha => ?_, fun a ha => ?_, g2.symm⟩
    · have ha : ((0 : Nat) : Int) < a := ha
      show (if a < 0 then gcmC xs a j else 0) = 0
      rw [if_neg (by omega)]
    · funext j
      show (if a < 0 then gcmC xs a j else 0) = _
      rw [if_pos ha, g3]
  have hcv : [(2, (-50 : Int))].map (cv g) = [Value.ref b] := by
    show [va_rf (rfo g (-50))] = _
    rw [rfo_neg g (by decide), g4]; rfl
  have hle := lrel_entry g hfit (as := [(2, -50)]) (fun w hw => by rw [List.mem_singleton.mp hw]; exact vok2)
  rw [hcv, nlo_0] at hle
  rw [lg_entry_eq]
  have := k _ s.heap [] hRS (by rw [nlo_0]; exact hle) (fun v hv => absurd hv List.not_mem_nil) ⟨Nat.le_refl _, fun _ _ _ => rfl, fun q hq => absurd hq List.not_mem_nil⟩ (Nat.zero_le _) (Nat.zero_le _)
  exact this
