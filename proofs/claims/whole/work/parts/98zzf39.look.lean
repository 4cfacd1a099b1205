/-! the two methods that meet exceptions: PaidFaces.look (7) and the law's own look (254) -/
def exI : String := "java/lang/IndexOutOfBoundsException"
def exN : String := "java/util/NoSuchElementException"
def exNm : List String := ["java/lang/RuntimeException", "java/lang/Exception"]
def exBN : ByteArray := ⟨#[0x2a, 0x2b, 0xb7, 0x00, 0x0d, 0xb1]⟩
def exBI : ByteArray := ⟨#[0x2a, 0x2b, 0xb7, 0x00, 0x07, 0xb1]⟩
def exF : List Cond := [.castable exI exI, .castable exN exN, .declares ⟨"java/lang/RuntimeException", "<init>", "(Ljava/lang/String;)V"⟩, .declares ⟨"java/lang/Exception", "<init>", "(Ljava/lang/String;)V"⟩, .declares ⟨"java/lang/Throwable", "<init>", "(Ljava/lang/String;)V"⟩]
theorem exF_ok : ∀ w ∈ exF, w.faceAtom = true ∧ w.onTables = true := by decide +kernel
/-- words that stay, though they aren't good ones -/
def CXs (U : State) : Prop := (∀ w ∈ exF, w.before #[] U = true) ∧ va_Nc exN exI U
theorem CXs.moved {u U : State} (hvm : u.vm.Alike U.vm) (h : CXs u) : CXs U := ⟨fun w hw => va_tabs (exF_ok w hw).2 (rfl : (u.setVm U.vm).vm = U.vm) (Cond.faceAtom_setVm hvm w (exF_ok w hw).1 (h.1 w hw)), h.2.moved hvm⟩
theorem CXs.word {U : State} (h : CXs U) {w : Cond} (hw : w ∈ exF) (args : Array Value) : w.before args U = true := va_tabs (exF_ok w hw).2 rfl (h.1 w hw)
def mkE (v : MV) (E : String) : Prop := (v = (0, 1099511627777) ∧ E = exI) ∨ (v = (0, 1099511627778) ∧ E = exN)
def XCall (g : GG) (v : MV) (h' : Hp) : String → State → State → Prop := fun E st t => mkE v E ∧ RSl g h' t.heap ∧ va_F (gA g) st t
theorem RS_thr {g : GG} {h : Hp} {H H1 : Heap} (hR : RSl g h H) (hz : H.size ≤ H1.size) (hk : ∀ z : Nat, z < H.size → H1[z]? = H[z]?) : RSl g (thr h) H1 := by
  obtain ⟨r1, r2, r3, r4, r5, r6, r7, r8⟩ := hR
  exact ⟨r1.kept (fun k x hx => hk x.1 ((r1 k x hx).lt)), fun z => absurd z (Nat.succ_ne_zero _), Nat.le_trans r3 hz, r4, r5, r6, r7, r8⟩
theorem cnt_thr (h : Hp) : cnt (thr h) = cnt h + 1 := rfl
theorem ssum_thr (h : Hp) : ssum (thr h) = ssum h + 16 := by
  show (h.2.1.map Prod.snd).sum + (h.2.2.2 + 1) * EXS = (h.2.1.map Prod.snd).sum + h.2.2.2 * EXS + 16
  unfold EXS; omega
set_option maxRecDepth 10000 in
theorem xw_1 : ∀ w ∈ Cond.classLink "PaidFaces" 130 exI :: Cond.initialized exI :: zx_at "PaidFaces" 134 exI 7 exBI exNm, (w ∈ lw_tbl ∧ goodWord w = true) ∨ w ∈ exF := by decide +kernel
set_option maxRecDepth 10000 in
theorem xw_2 : ∀ w ∈ Cond.classLink "PaidFaces" 156 exN :: Cond.initialized exN :: zx_at "PaidFaces" 160 exN 13 exBN exNm, (w ∈ lw_tbl ∧ goodWord w = true) ∨ w ∈ exF := by decide +kernel
theorem x7b : m_7.all (fun q => !isEnd q.2.1 q.2.2.2.2 || (!isX q.2.1 || (decide (q.1 = 11 ∧ q.2 = (.new 130, 3, [0, 1, 2], [1099511627777])) || decide (q.1 = 125 ∧ q.2 = (.new 156, 3, [0, 1, 2], [1099511627778]))))) = true := by decide +kernel
theorem x7 (q : Nat × ME) (hq : q ∈ m_7) (h1 : isEnd q.2.1 q.2.2.2.2 = true) (h2 : isX q.2.1 = true) : q = (11, .new 130, 3, [0, 1, 2], [1099511627777]) ∨ q = (125, .new 156, 3, [0, 1, 2], [1099511627778]) := by
  have k := List.all_eq_true.mp x7b q hq
  rw [h1, h2] at k
  simp only [Bool.not_true, Bool.false_or, Bool.or_eq_true, decide_eq_true_eq] at k
  exact k.imp (fun k => Prod.ext k.1 k.2) (fun k => Prod.ext k.1 k.2)
theorem ok_7 : m_7.all (fun q => okE 7 q.1 q.2 && noC q.2) = true := by decide +kernel
theorem okm_7 : OKM 7 := by
  intro pc en h
  have hm : (pc, en) ∈ m_7 := lookup_mem h
  have a1 := List.all_eq_true.mp ok_7 _ hm
  have a2 := of_decide_eq_true (List.all_eq_true.mp dc_7 _ hm)
  rw [Bool.and_eq_true] at a1
  exact ⟨a1.1, a2, a1.2⟩
theorem cn_7 : CN (yO 7) = "PaidFaces" := by decide +kernel
section L7
variable {p : Program} {l : Launch} {e : Env} {R : Room} {s : State} {m : MethodId} {args : Array Value} {below : List Frame} {meth : Method} {c : Code} {Q : State → Prop} {g : GG} {y c0 s0 pc : Nat} {ls st : List MV} {h : Hp}
theorem throw_7 (C : Ctx p l s m args meth c g 7) {cls text : String} {ik is ic ix i : Nat} {rx : ByteArray} {mk : Int} (hfl : l.stackTraces = false) (htab : ∀ x ∈ c.exceptionTable.toList, False) (hRm : 6 ≤ R.frames ∧ 82 ≤ R.locals) (hRc : cnt (thr h) - c0 ≤ R.cells ∧ ssum (thr h) - s0 ≤ R.slots)
    (x0 : decode rx 0 = .ok (.aload_n 0, 1)) (x1 : decode rx 1 = .ok (.aload_n 1, 1)) (x2 : decode rx 2 = .ok (.invokespecial ix, 3)) (x5 : decode rx 5 = .ok (.return_, 1)) (hfit : Bundle.fit cls = true)
    (hw : ∀ w ∈ Cond.classLink "PaidFaces" ik cls :: Cond.initialized cls :: zx_at "PaidFaces" ic cls ix rx exNm, (w ∈ lw_tbl ∧ goodWord w = true) ∨ w ∈ exF) (hstr : STRs[i]? = some ("PaidFaces", is, text)) (hcs : CXs s) (hmk : mkE (0, mk) cls)
    (d0 : decode (yB 7) pc = .ok (.new ik, 3)) (d3 : decode (yB 7) (pc + 3) = .ok (.dup, 1)) (d4 : decode (yB 7) (pc + 4) = .ok (.ldc is, 2)) (d6 : decode (yB 7) (pc + 6) = .ok (.invokespecial ic, 3)) (d9 : decode (yB 7) (pc + 9) = .ok (.athrow, 1)) :
    G2 p l e R s m args below meth c (vx_MQ below (Qcall g (0, mk) (thr h)) (XCall g (0, mk) (thr h)) args s (cnt (thr h) - c0) (ssum (thr h) - s0) (gA g)) g 7 c0 s0 pc ls [] h := by
  intro lsR H locs hR hl hv hS hcc hss
  obtain ⟨k1, k2, k3, k4, k5, k6, k7, k8, k9, k10⟩ := C
  rw [cn_7] at k4
  have hb : ∀ w ∈ Cond.classLink "PaidFaces" ik cls :: Cond.initialized cls :: zx_at "PaidFaces" ic cls ix rx exNm, w.before args s = true := fun w hw' => (hw w hw').elim (fun q => k5 w q.1 q.2) (fun q => hcs.word q args)
  have hgd : ∀ w ∈ Cond.classLink "PaidFaces" ik cls :: Cond.initialized cls :: zx_at "PaidFaces" ic cls ix rx exNm, vx_ot w = true := fun w hw' => (hw w hw').elim (fun q => by unfold vx_ot; rw [q.2, Bool.or_true]) (fun q => by unfold vx_ot; rw [(exF_ok w q).2, Bool.true_or])
  obtain ⟨-, -, -, -, -, h6, -, -, hU, hN⟩ := k6
  rw [cnt_thr, ssum_thr] at hRc
  have hnm : ∀ n ∈ exNm, Bundle.fit n = true := by decide +kernel
  refine zx_make k1 k2 hfl x0 x1 x2 x5 (own := "PaidFaces") (cls := cls) (names := exNm) (A := gA g) k4 hfit hnm (hb _ List.mem_cons_self) (hb _ (List.mem_cons_of_mem _ List.mem_cons_self)) (h6 i _ hstr) (fun w h => hb w (List.mem_cons_of_mem _ (List.mem_cons_of_mem _ h))) hgd hU hN hS (hl.1.1.trans k3.symm) d0 d3 d4 d6 (by show 2 + 3 < R.frames; omega) (by show 0 + (13 * (2 + 1) + 43) ≤ R.locals; omega) (by omega) (by omega) ?_
  intro q H1 ce z1 z2 hS1 hce hvm hcl
  refine vx_athrow k1 k2 d9 ?_
  exact vx_out (fun x hx => (htab x hx).elim) k9 hce hvm hcl (fun t ht _ => ⟨hmk, by rw [ht]; exact RS_thr hR z1 z2, va_S.F hS1 ht⟩) hS1.2.2 (by rw [cnt_thr]; omega) (by rw [ssum_thr]; omega)
theorem end_7 (C : Ctx p l s m args meth c g 7) {d : Nat} {r0 : MR} (hcs : CXs s) (hfl : l.stackTraces = false) (htab : ∀ x ∈ c.exceptionTable.toList, False) (hRm : 6 ≤ R.frames ∧ 82 ≤ R.locals) (hRc : cnt r0.2 - c0 ≤ R.cells ∧ ssum r0.2 - s0 ≤ R.slots) :
    EndOk p l e R s m args below meth c (vx_MQ below (Qcall g r0.1 r0.2) (XCall g r0.1 r0.2) args s (cnt r0.2 - c0) (ssum r0.2 - s0) (gA g)) g d 7 c0 s0 r0 := by
  intro n _ pc ls st h en hc hE he
  obtain ⟨o1, o2, o3⟩ := okm_7 pc en hc
  obtain ⟨ins, ln, kl, ax⟩ := en
  cases hx : isX ins with
  | false =>
    have k := end_ok (e := e) C o1 o2 he hE hx (R := R) (below := below) (c0 := c0) (s0 := s0)
    intro lsR H locs hR hl hv hS hcc hss
    exact vx_ret (k lsR H locs hR hl hv hS hcc hss)
  | true =>
    have hm : (pc, (ins, ln, kl, ax)) ∈ m_7 := lookup_mem hc
    rcases x7 _ hm hE hx with q | q
    · cases q
      cases st with
      | cons v r => cases he
      | nil =>
        have he : some ((0, (1099511627777 : Int)), thr h) = some r0 := he
        cases he
        exact throw_7 (i := 0) C hfl htab hRm hRc (by decide +kernel) (by decide +kernel) (by decide +kernel) (by decide +kernel) (by decide +kernel) xw_1 rfl hcs (Or.inl ⟨rfl, rfl⟩) (by decide +kernel) (by decide +kernel) (by decide +kernel) (by decide +kernel) (by decide +kernel)
    · cases q
      cases st with
      | cons v r => cases he
      | nil =>
        have he : some ((0, (1099511627778 : Int)), thr h) = some r0 := he
        cases he
        exact throw_7 (i := 1) C hfl htab hRm hRc (by decide +kernel) (by decide +kernel) (by decide +kernel) (by decide +kernel) (by decide +kernel) xw_2 rfl hcs (Or.inr ⟨rfl, rfl⟩) (by decide +kernel) (by decide +kernel) (by decide +kernel) (by decide +kernel) (by decide +kernel)
end L7
def MetX (l : Launch) (g : GG) (d : Nat) (as : List MV) (h : Hp) (v : MV) (h' : Hp) : Prop :=
  vx_Met l (yN 7) (yWs 7) ({ frames := d + 2, cells := cnt h' - cnt h, slots := ssum h' - ssum h, locals := 44 * d + 80 }) (fun a U => Pcall g as h a U ∧ CXs U) (Qcall g v h') (XCall g v h') (cnt h' - cnt h) (ssum h' - ssum h) (gA g)
theorem metx_7 {l : Launch} {g : GG} {d : Nat} {as : List MV} {h : Hp} {r : MR} (hfl : l.stackTraces = false) (hd : 4 ≤ d) (hv : ∀ w ∈ as, vok w) (e : C d 7 as h = some r) : MetX l g d as h r.1 r.2 := by
  obtain ⟨hfit, e⟩ := C_fit e
  obtain ⟨n, hn⟩ := V_iff.mp e
  have hm := mp_7
  unfold MetX
  refine vx_ofW (cc := yB 7) (maxL := nlo 7) (ret := yR 7) hm.2.2.2.1 rfl ?_
  intro p e s m args below meth c s₁ B hml htab hP
  obtain ⟨⟨rfl, hRS, hKN, hsz⟩, hcs⟩ := hP
  have hts := atoms_spec (ws := yWs 7) B.pre
  have hown : s.vm.findClass (yN 7).cls = some m.cls := findClass_of_methodNamed B.named
  have hCtx : Ctx p l s m (as.map (cv g)).toArray meth c g 7 := ⟨B.exec, B.bytes, hml, by rw [hm.2.2.2.2.1]; exact hown, fun w hw hg => hts w (List.mem_cons_of_mem _ (tw_in hw hg)), hKN, B.returns, fun hn => (name_of_methodNamed B.named B.method).1.trans hn, B.notSynchronized, hsz⟩
  have k := run_ok l g hAll_ok hlen_ok n d 7 0 (loc0 7 as) [] h r okm_7 hn p e (headSpec (yWs 7) { frames := d + 2, cells := cnt r.2 - cnt h, slots := ssum r.2 - ssum h, locals := 44 * d + 80 }).room s m (as.map (cv g)).toArray below meth c (vx_MQ below (Qcall g r.1 r.2) (XCall g r.1 r.2) (as.map (cv g)).toArray s (cnt r.2 - cnt h) (ssum r.2 - ssum h) (gA g)) (cnt h) (ssum h) hCtx ⟨Nat.le_refl _, Nat.le_refl _⟩ ⟨Nat.le_refl _, Nat.le_refl _⟩
    (end_7 hCtx hcs hfl htab ⟨by show 6 ≤ d + 2; omega, by show 82 ≤ 44 * d + 80; omega⟩ ⟨Nat.le_refl _, Nat.le_refl _⟩)
  rw [lg_entry_eq]
  have := k _ s.heap [] hRS (lrel_entry g hfit hv) (fun v hv => absurd hv List.not_mem_nil) ⟨Nat.le_refl _, fun _ _ _ => rfl, fun q hq => absurd hq List.not_mem_nil⟩ (Nat.le_refl _) (Nat.le_refl _)
  rw [Nat.sub_self, Nat.sub_self] at this
  exact this
