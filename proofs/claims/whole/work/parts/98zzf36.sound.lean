/-! the induction on a run -/
def isX : Instr → Bool
  | .new _ => true | .invokestatic _ => true | _ => false
def noC (en : ME) : Bool := !isCall en.1 || match en.2.2.2 with
  | z :: _ => z.toNat != 7 && z.toNat != 0 && (z.toNat != 254 || isEnd en.1 en.2.2.2)
  | [] => true
def OKM (y : Nat) : Prop := ∀ (pc : Nat) (en : ME), cd y pc = some en → okE y pc en = true ∧ decode (yB y) pc = .ok (en.1, en.2.1) ∧ noC en = true
def noX (y : Nat) : Prop := ∀ (pc : Nat) (en : ME), cd y pc = some en → isX en.1 = true → isEnd en.1 en.2.2.2 = false
section EN
variable {p : Program} {l : Launch} {e : Env} {R : Room} {s : State} {m : MethodId} {args : Array Value} {below : List Frame} {meth : Method} {c : Code} {Q : State → Prop} {g : GG} {y c0 s0 pc ln : Nat} {ls st : List MV} {h : Hp} {ins : Instr} {ax : List Int} {kl : List Nat} {r0 : MR}
variable {K : Nat → List MV → List MV → Hp → Option MR} {Cl : Nat → List MV → Nat → Nat → List MV → List MV → Hp → Option MR}
theorem qc_of {v : MV} {oc : Option Value} {H : Heap} {locs : List Loc} (hR : RSl g h H) (hS : va_S (gA g) s.heap H locs) (hv : v.1 ≠ 9 → vok v) (ho : oc = rvO g v) : ∀ t : State, t.heap = H → s.WarmedH t.vm → Qcall g v h args s (.returned oc) t :=
  fun t ht _ => ⟨by rw [ho], hv, by rw [ht]; exact hR, va_S.F hS ht⟩
set_option maxHeartbeats 2000000 in
theorem end_ok (CX : Ctx p l s m args meth c g y) (hok : okE y pc (ins, ln, kl, ax) = true) (hdg : decode (yB y) pc = .ok (ins, ln)) (he : exK K (fun v h => some (v, h)) Cl ins ax pc ls st h = some r0) (hE : isEnd ins ax = true) (hX : isX ins = false) :
    G2 p l e R s m args below meth c (MQ below (Qcall g r0.1 r0.2) args s (cnt r0.2 - c0) (ssum r0.2 - s0) (gA g)) g y c0 s0 pc ls st h := by
  have hok' := hok
  unfold okE at hok'
  rw [Bool.and_eq_true, Bool.or_eq_true, beq_iff_eq] at hok'
  obtain ⟨hln, hm⟩ := hok'
  dsimp only at hln
  obtain ⟨k1, k2, -, -, -, -, k7, -, k9, -⟩ := CX
  cases ins <;> first | (exact absurd (show (false : Bool) = true from hE) (by decide)) | (exact absurd (show (true : Bool) = false from hX) (by decide)) | skip
  case ireturn =>
    have hl : ln = _ := hln.resolve_left (by decide)
    subst hl
    dsimp only [exK] at he
    split at he <;> first | (cases he; done) | skip
    rename_i t x
    rcases of_decide_eq_true hm with ⟨rfl, hr⟩ | ⟨rfl, hr⟩ | ⟨rfl, hr⟩ | ⟨rfl, hr⟩
    · rw [if_neg (by decide), if_neg (by decide), if_neg (by decide)] at he
      cases he
      intro lsR H locs hR hl hv hS hc hs
      exact W.iret k1 k2 (k7.trans hr) (qc_of hR hS (fun _ => vhd hv) rfl) hS.2.2 hdg k9
    · rw [if_pos rfl] at he
      split at he <;> first | (cases he; done) | skip
      rename_i hx
      cases he
      intro lsR H locs hR hl hv hS hc hs
      exact W.zret k1 k2 (k7.trans hr) (nar_bool hx) (qc_of hR hS (fun _ => vhd hv) rfl) hS.2.2 hdg k9
    · rw [if_neg (by decide), if_pos rfl] at he
      split at he <;> first | (cases he; done) | skip
      rename_i hx
      cases he
      intro lsR H locs hR hl hv hS hc hs
      exact W.zret k1 k2 (k7.trans hr) (nar_char' hx) (qc_of hR hS (fun _ => vhd hv) rfl) hS.2.2 hdg k9
    · rw [if_neg (by decide), if_neg (by decide), if_pos rfl] at he
      split at he <;> first | (cases he; done) | skip
      rename_i hx
      cases he
      intro lsR H locs hR hl hv hS hc hs
      exact W.zret k1 k2 (k7.trans hr) (nar_byte hx) (qc_of hR hS (fun _ => vhd hv) rfl) hS.2.2 hdg k9
  case lreturn =>
    have hl : ln = _ := hln.resolve_left (by decide)
    subst hl
    dsimp only [exK] at he
    split at he <;> first | (cases he; done) | skip
    cases he
    intro lsR H locs hR hl hv hS hc hs
    exact W.lret k1 k2 (k7.trans (of_decide_eq_true hm)) (qc_of hR hS (fun _ => vhd hv) rfl) hS.2.2 hdg k9
  case areturn => exact absurd (show (false : Bool) = true from hm) (by decide)
  case return_ =>
    have hl : ln = _ := hln.resolve_left (by decide)
    subst hl
    dsimp only [exK] at he
    split at he <;> first | (cases he; done) | skip
    cases he
    intro lsR H locs hR hl hv hS hc hs
    exact W.vret k1 k2 (k7.trans (of_decide_eq_true hm)) (qc_of hR hS (fun z => absurd rfl z) rfl) hS.2.2 hdg k9
end EN
/-- where a method is left otherwise than by a call or a step: what is asked -/
def EndOk (p : Program) (l : Launch) (e : Env) (R : Room) (s : State) (m : MethodId) (args : Array Value) (below : List Frame) (meth : Method) (c : Code) (Q : State → Prop) (g : GG) (d y c0 s0 : Nat) (r0 : MR) : Prop :=
  ∀ (n : Nat), (∀ (pc : Nat) (ls st : List MV) (h : Hp), run n d y pc ls st h = some r0 → G2 p l e R s m args below meth c Q g y c0 s0 pc ls st h) → ∀ (pc : Nat) (ls st : List MV) (h : Hp) (en : ME), cd y pc = some en → isEnd en.1 en.2.2.2 = true → exK (run n d y) (fun v h => some (v, h)) (kC n d y) en.1 en.2.2.2 pc ls st h = some r0 → G2 p l e R s m args below meth c Q g y c0 s0 pc ls st h
theorem metc_of {l : Launch} {g : GG} {d z np : Nat} {as : List MV} {h : Hp} {r : MR} (hm : MP z np) (hfit : (lay as).length ≤ nlo z) (hv : ∀ w ∈ as, vok w) (hX : noX z) (hO : OKM z) (hup : up h r.2)
    (H : ∀ (p : Program) (e : Env) (R : Room) (s : State) (m : MethodId) (args : Array Value) (below : List Frame) (meth : Method) (c : Code) (Q : State → Prop), Ctx p l s m args meth c g z → (d + 2 ≤ R.frames ∧ 44 * d + 80 ≤ R.locals) → (cnt r.2 - cnt h ≤ R.cells ∧ ssum r.2 - ssum h ≤ R.slots) → EndOk p l e R s m args below meth c Q g d z (cnt h) (ssum h) r → G2 p l e R s m args below meth c Q g z (cnt h) (ssum h) 0 (loc0 z as) [] h) : MetC l g d z as h r.1 r.2 := by
  unfold MetC
  refine Met.ofW (cc := yB z) (maxL := nlo z) (ret := yR z) hm.2.2.2.1 rfl ?_
  intro p e s m args below meth c s₁ B hml hP
  obtain ⟨rfl, hRS, hKN, hsz⟩ := hP
  have hts := atoms_spec (ws := yWs z) B.pre
  have hown : s.vm.findClass (yN z).cls = some m.cls := findClass_of_methodNamed B.named
  have hCtx : Ctx p l s m (as.map (cv g)).toArray meth c g z := ⟨B.exec, B.bytes, hml, by rw [hm.2.2.2.2.1]; exact hown, fun w hw hg => hts w (List.mem_cons_of_mem _ (tw_in hw hg)), hKN, B.returns, fun hn => (name_of_methodNamed B.named B.method).1.trans hn, B.notSynchronized, hsz⟩
  have k := H p e (headSpec (yWs z) { frames := d + 2, cells := cnt r.2 - cnt h, slots := ssum r.2 - ssum h, locals := 44 * d + 80 }).room s m (as.map (cv g)).toArray below meth c (MQ below (Qcall g r.1 r.2) (as.map (cv g)).toArray s (cnt r.2 - cnt h) (ssum r.2 - ssum h) (gA g)) hCtx ⟨Nat.le_refl _, Nat.le_refl _⟩ ⟨Nat.le_refl _, Nat.le_refl _⟩ (fun n _ pc ls st h' en hc hE he => end_ok hCtx (hO pc en hc).1 (hO pc en hc).2.1 he hE (by
    cases hx : isX en.1 with
    | false => rfl
    | true => have := hX pc en hc hx; rw [hE] at this; cases this))
  rw [lg_entry_eq]
  have := k _ s.heap [] hRS (lrel_entry g hfit hv) (fun v hv => absurd hv List.not_mem_nil) ⟨Nat.le_refl _, fun _ _ _ => rfl, fun q hq => absurd hq List.not_mem_nil⟩ (Nat.le_refl _) (Nat.le_refl _)
  rw [Nat.sub_self, Nat.sub_self] at this
  exact this
theorem run_ok (l : Launch) (g : GG) (hAll : ∀ z, z < 254 → z ≠ 7 → z ≠ 0 → (z < 242 ∨ 246 < z) → OKM z ∧ noX z ∧ ∃ np, MP z np) (hlen : ∀ z en, cd z 0 = some en → z < 255) :
    ∀ (n d y pc : Nat) (ls st : List MV) (h : Hp) (r0 : MR), OKM y → run n d y pc ls st h = some r0 → ∀ (p : Program) (e : Env) (R : Room) (s : State) (m : MethodId) (args : Array Value) (below : List Frame) (meth : Method) (c : Code) (Q : State → Prop) (c0 s0 : Nat),
      Ctx p l s m args meth c g y → (d + 2 ≤ R.frames ∧ 44 * d + 80 ≤ R.locals) → (cnt r0.2 - c0 ≤ R.cells ∧ ssum r0.2 - s0 ≤ R.slots) → EndOk p l e R s m args below meth c Q g d y c0 s0 r0 → G2 p l e R s m args below meth c Q g y c0 s0 pc ls st h := by
  intro n
  induction n with
  | zero => intro d y pc ls st h r0 _ e; cases e
  | succ n ih =>
    intro d y pc ls st h r0 hO he p e R s m args below meth c Q c0 s0 CX hRm hRc hEnd
    cases hc : cd y pc with
    | none => unfold run at he; rw [hc] at he; cases he
    | some en =>
      rw [run_succ hc] at he
      obtain ⟨o1, o2, o3⟩ := hO pc en hc
      have ihy : ∀ (pc : Nat) (ls st : List MV) (h : Hp), run n d y pc ls st h = some r0 → G2 p l e R s m args below meth c Q g y c0 s0 pc ls st h := fun pc ls st h e1 => ih d y pc ls st h r0 hO e1 p e R s m args below meth c Q c0 s0 CX hRm hRc hEnd
      have key : G2 p l e R s m args below meth c Q g y c0 s0 pc (kil en.2.2.1 ls) st h := by
        refine step1 (kl := en.2.2.1) CX o1 o2 he (fun hE => hEnd n ihy pc _ _ _ en hc hE he) (fun pc' ls' s' h' e1 => ⟨run_up n e1, ihy pc' ls' s' h' e1⟩) hRc ⟨by omega, by omega⟩ ?_
        intro z as q pc' ls' rest h' hcall hnE hz e1
        unfold kC at e1
        cases d with
        | zero => cases e1
        | succ d =>
          dsimp only at e1
          by_cases hfit : (lay as).length ≤ nlo z
          case neg => rw [if_neg hfit] at e1; cases e1
          rw [if_pos hfit] at e1
          cases hr : run n d z 0 (loc0 z as) [] h' with
          | none => rw [hr] at e1; cases e1
          | some w =>
            rw [hr] at e1
            dsimp only at e1
            split at e1
            case isFalse => cases e1
            rename_i hq
            refine ⟨d, w.1, w.2, (C_of hfit).trans (V_iff.mpr ⟨n, hr⟩), fun hz2 hvs => ?_, hq, ⟨by omega, by omega⟩, run_up n hr, run_up n e1, ihy _ _ _ _ e1⟩
            have hz255 : z < 255 := by
              cases hcz : cd z 0 with
              | none => 
                cases n with
                | zero => cases hr
                | succ n => unfold run at hr; rw [hcz] at hr; cases hr
              | some e0 => exact hlen z e0 hcz
            have h3 : z ≠ 7 ∧ z ≠ 0 ∧ z ≠ 254 := by
              unfold noC at o3
              rw [hcall] at o3
              cases hax : en.2.2.2 with
              | nil => rw [hax] at hz; cases hz
              | cons z0 rest0 =>
                rw [hax] at hz o3 hnE
                cases hz
                simp only [Bool.not_true, Bool.false_or, Bool.and_eq_true, Bool.or_eq_true, bne_iff_ne] at o3
                exact ⟨o3.1.1, o3.1.2, o3.2.resolve_right hnE⟩
            obtain ⟨a1, a2, np, a3⟩ := hAll z (by omega) h3.1 h3.2.1 hz2
            exact metc_of a3 hfit hvs a2 a1 (run_up n hr) (fun p e R s m args below meth c Q k1 k2 k3 k4 => ih d z 0 (loc0 z as) [] h' w a1 hr p e R s m args below meth c Q (cnt h') (ssum h') k1 k2 k3 k4)
      intro lsR H locs hR hl hv hS
      exact key lsR H locs hR (lrel_kil _ hl) hv hS
