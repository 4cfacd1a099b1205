/-! the case over all instructions -/
def isEnd (i : Instr) (ax : List Int) : Bool := match i with
  | .ireturn => true | .lreturn => true | .areturn => true | .return_ => true | .new _ => ax.length == 1 | .invokestatic _ => ax.headD 0 == 254 | _ => false
theorem ca_of {o i z : Nat} {kd : Nat} {P : Nat → Bool} (h : CA.any (fun r => r.1 == o && r.2.1 == i && r.2.2.1 == z && r.2.2.2.1 == kd && P r.2.2.2.2.2) = true) : ∃ ne np, (o, i, z, kd, ne, np) ∈ CA ∧ ne ≤ 1 ∧ P np = true := by
  obtain ⟨⟨a1, a2, a3, a4, a5, a6⟩, hr, hb⟩ := List.any_eq_true.mp h
  simp only [Bool.and_eq_true, beq_iff_eq] at hb
  obtain ⟨⟨⟨⟨rfl, rfl⟩, rfl⟩, rfl⟩, hp⟩ := hb
  exact ⟨a5, a6, hr, (CA_ok _ hr).2.2.1, hp⟩
theorem stk_of {n : Nat} {st as : List MV} {a : Int} (h : (st.take n).reverse = (2, a) :: as) (hn : n ≤ st.length) : st = as.reverse ++ (2, a) :: st.drop n ∧ as.length + 1 = n := by
  have h1 : st.take n = as.reverse ++ [(2, a)] := by
    have := congrArg List.reverse h
    rw [List.reverse_reverse, List.reverse_cons] at this
    exact this
  refine ⟨?_, ?_⟩
  · have h2 := (List.take_append_drop n st).symm
    rw [h1, List.append_assoc] at h2
    exact h2
  · have := congrArg List.length h1
    simp at this
    omega
theorem vok_as {as rest : List MV} {a : Int} (hv : ∀ v ∈ as.reverse ++ (2, a) :: rest, vok v) : ∀ w ∈ (2, a) :: as, vok w := by
  intro w hw
  rcases List.mem_cons.mp hw with q | q
  · rw [q]; exact vok2
  · exact hv w (List.mem_append.mpr (Or.inl (List.mem_reverse.mpr q)))
theorem vok_as0 {as rest : List MV} (hv : ∀ v ∈ as.reverse ++ rest, vok v) : ∀ w ∈ as, vok w := fun w hw => hv w (List.mem_append.mpr (Or.inl (List.mem_reverse.mpr hw)))
theorem C_9999 {d : Nat} {as : List MV} {h : Hp} {r : MR} : ¬ C d (9999 : Int).toNat as h = some r := by
  intro e
  obtain ⟨n, hn⟩ := V_iff.mp (C_fit e).2
  cases n with
  | zero => cases hn
  | succ n =>
    unfold run at hn
    rw [show cd (9999 : Int).toNat 0 = none by decide +kernel] at hn
    cases hn
theorem mp_nm {z np : Nat} (hm : MP z np) : z < 242 ∨ 246 < z := by
  rcases Nat.lt_or_ge z 242 with h | h
  · exact Or.inl h
  · rcases Nat.lt_or_ge 246 z with h2 | h2
    · exact Or.inr h2
    · have h3 : plainName (yN z).cls = true := hm.2.2.2.1
      have : z = 242 ∨ z = 243 ∨ z = 244 ∨ z = 245 ∨ z = 246 := by omega
      rcases this with rfl | rfl | rfl | rfl | rfl <;> exact absurd h3 (by decide +kernel)
section ST9
variable {p : Program} {l : Launch} {e : Env} {R : Room} {s : State} {m : MethodId} {args : Array Value} {below : List Frame} {meth : Method} {c : Code} {Q : State → Prop} {g : GG} {y c0 s0 pc ln : Nat} {ls st : List MV} {h : Hp} {ins : Instr} {ax : List Int} {kl : List Nat} {r0 : MR}
variable {K : Nat → List MV → List MV → Hp → Option MR} {T : MV → Hp → Option MR} {Cl : Nat → List MV → Nat → Nat → List MV → List MV → Hp → Option MR}
/-- what is asked of a call -/
def CallOk (l : Launch) (R : Room) (g : GG) (r0 : MR) (h : Hp) (z : Nat) (as : List MV) (q : Nat) (P : List MV → Hp → Prop) (rest : List MV) : Prop :=
  ∃ (d : Nat) (v : MV) (h' : Hp), C d z as h = some (v, h') ∧ ((z < 242 ∨ 246 < z) → (∀ w ∈ as, vok w) → MetC l g d z as h v h') ∧ v.1 = q ∧ (d + 3 ≤ R.frames ∧ 44 * (d + 1) + 80 ≤ R.locals) ∧ (cnt h ≤ cnt h' ∧ ssum h ≤ ssum h') ∧ (cnt h' ≤ cnt r0.2 ∧ ssum h' ≤ ssum r0.2) ∧ P (if q = 9 then rest else (q, v.2) :: rest) h'
set_option maxHeartbeats 8000000 in
theorem step1 (CX : Ctx p l s m args meth c g y) (hok : okE y pc (ins, ln, kl, ax) = true) (hdg : decode (yB y) pc = .ok (ins, ln)) (he : exK K T Cl ins ax pc ls st h = some r0)
    (hEnd : isEnd ins ax = true → G2 p l e R s m args below meth c Q g y c0 s0 pc ls st h)
    (hK : ∀ pc' ls' s' h', K pc' ls' s' h' = some r0 → (cnt h' ≤ cnt r0.2 ∧ ssum h' ≤ ssum r0.2) ∧ G2 p l e R s m args below meth c Q g y c0 s0 pc' ls' s' h')
    (hR0 : cnt r0.2 - c0 ≤ R.cells ∧ ssum r0.2 - s0 ≤ R.slots) (hF : 1 ≤ R.frames ∧ 80 ≤ R.locals)
    (hC : ∀ z as q pc' ls' rest h', isCall ins = true → isEnd ins ax ≠ true → ax.head?.map Int.toNat = some z → Cl z as q pc' ls' rest h' = some r0 → CallOk l R g r0 h' z as q (fun st' h'' => G2 p l e R s m args below meth c Q g y c0 s0 pc' ls' st' h'') rest) :
    G2 p l e R s m args below meth c Q g y c0 s0 pc ls st h := by
  by_cases hE : isEnd ins ax = true
  · exact hEnd hE
  have hok' := hok
  unfold okE at hok'
  rw [Bool.and_eq_true, Bool.or_eq_true, beq_iff_eq] at hok'
  obtain ⟨hln, hm⟩ := hok'
  dsimp only at hln
  cases ins
  case iadd =>
    have hl : ln = _ := hln.resolve_left (show ¬ (false = true) by decide)
    subst hl
    dsimp only [exK] at he
    split at he <;> first | (cases he; done) | exact s_iadd CX hdg (hK _ _ _ _ he).2
  case isub =>
    have hl : ln = _ := hln.resolve_left (show ¬ (false = true) by decide)
    subst hl
    dsimp only [exK] at he
    split at he <;> first | (cases he; done) | exact s_isub CX hdg (hK _ _ _ _ he).2
  case imul =>
    have hl : ln = _ := hln.resolve_left (show ¬ (false = true) by decide)
    subst hl
    dsimp only [exK] at he
    split at he <;> first | (cases he; done) | exact s_imul CX hdg (hK _ _ _ _ he).2
  case iand =>
    have hl : ln = _ := hln.resolve_left (show ¬ (false = true) by decide)
    subst hl
    dsimp only [exK] at he
    split at he <;> first | (cases he; done) | exact s_iand CX hdg (hK _ _ _ _ he).2
  case ior =>
    have hl : ln = _ := hln.resolve_left (show ¬ (false = true) by decide)
    subst hl
    dsimp only [exK] at he
    split at he <;> first | (cases he; done) | exact s_ior CX hdg (hK _ _ _ _ he).2
  case ixor =>
    have hl : ln = _ := hln.resolve_left (show ¬ (false = true) by decide)
    subst hl
    dsimp only [exK] at he
    split at he <;> first | (cases he; done) | exact s_ixor CX hdg (hK _ _ _ _ he).2
  case ishl =>
    have hl : ln = _ := hln.resolve_left (show ¬ (false = true) by decide)
    subst hl
    dsimp only [exK] at he
    split at he <;> first | (cases he; done) | exact s_ishl CX hdg (hK _ _ _ _ he).2
  case ishr =>
    have hl : ln = _ := hln.resolve_left (show ¬ (false = true) by decide)
    subst hl
    dsimp only [exK] at he
    split at he <;> first | (cases he; done) | exact s_ishr CX hdg (hK _ _ _ _ he).2
  case iushr =>
    have hl : ln = _ := hln.resolve_left (show ¬ (false = true) by decide)
    subst hl
    dsimp only [exK] at he
    split at he <;> first | (cases he; done) | exact s_iushr CX hdg (hK _ _ _ _ he).2
  case ladd =>
    have hl : ln = _ := hln.resolve_left (show ¬ (false = true) by decide)
    subst hl
    dsimp only [exK] at he
    split at he <;> first | (cases he; done) | exact s_ladd CX hdg (hK _ _ _ _ he).2
  case lsub =>
    have hl : ln = _ := hln.resolve_left (show ¬ (false = true) by decide)
    subst hl
    dsimp only [exK] at he
    split at he <;> first | (cases he; done) | exact s_lsub CX hdg (hK _ _ _ _ he).2
  case lmul =>
    have hl : ln = _ := hln.resolve_left (show ¬ (false = true) by decide)
    subst hl
    dsimp only [exK] at he
    split at he <;> first | (cases he; done) | exact s_lmul CX hdg (hK _ _ _ _ he).2
  case lneg =>
    have hl : ln = _ := hln.resolve_left (show ¬ (false = true) by decide)
    subst hl
    dsimp only [exK] at he
    split at he <;> first | (cases he; done) | exact s_lneg CX hdg (hK _ _ _ _ he).2
  case lcmp =>
    have hl : ln = _ := hln.resolve_left (show ¬ (false = true) by decide)
    subst hl
    dsimp only [exK] at he
    split at he <;> first | (cases he; done) | exact s_lcmp CX hdg (hK _ _ _ _ he).2
  case i2l =>
    have hl : ln = _ := hln.resolve_left (show ¬ (false = true) by decide)
    subst hl
    dsimp only [exK] at he
    split at he <;> first | (cases he; done) | exact s_i2l CX hdg (hK _ _ _ _ he).2
  case l2i =>
    have hl : ln = _ := hln.resolve_left (show ¬ (false = true) by decide)
    subst hl
    dsimp only [exK] at he
    split at he <;> first | (cases he; done) | exact s_l2i CX hdg (hK _ _ _ _ he).2
  case i2c =>
    have hl : ln = _ := hln.resolve_left (show ¬ (false = true) by decide)
    subst hl
    dsimp only [exK] at he
    split at he <;> first | (cases he; done) | exact s_i2c CX hdg (hK _ _ _ _ he).2
  case dup2 =>
    have hl : ln = _ := hln.resolve_left (show ¬ (false = true) by decide)
    subst hl
    dsimp only [exK] at he
    split at he <;> first | (cases he; done) | exact s_dup2 CX hdg (hK _ _ _ _ he).2
  case pop =>
    have hl : ln = _ := hln.resolve_left (show ¬ (false = true) by decide)
    subst hl
    dsimp only [exK] at he
    split at he <;> first | (cases he; done) | exact s_pop CX hdg (hK _ _ _ _ he).2
  case idiv =>
    have hl : ln = _ := hln.resolve_left (show ¬ (false = true) by decide)
    subst hl
    dsimp only [exK] at he
    split at he <;> first | (cases he; done) | skip
    split at he <;> first | (cases he; done) | skip
    exact s_idiv CX (by assumption) hdg (hK _ _ _ _ he).2
  case irem =>
    have hl : ln = _ := hln.resolve_left (show ¬ (false = true) by decide)
    subst hl
    dsimp only [exK] at he
    split at he <;> first | (cases he; done) | skip
    split at he <;> first | (cases he; done) | skip
    exact s_irem CX (by assumption) hdg (hK _ _ _ _ he).2
  case ldiv =>
    have hl : ln = _ := hln.resolve_left (show ¬ (false = true) by decide)
    subst hl
    dsimp only [exK] at he
    split at he <;> first | (cases he; done) | skip
    split at he <;> first | (cases he; done) | skip
    exact s_ldiv CX (by assumption) hdg (hK _ _ _ _ he).2
  case iconst n =>
    have hl : ln = _ := hln.resolve_left (show ¬ (false = true) by decide)
    subst hl
    exact s_iconst CX (of_decide_eq_true hm) hdg (hK _ _ _ _ he).2
  case bipush n =>
    have hl : ln = _ := hln.resolve_left (show ¬ (false = true) by decide)
    subst hl
    exact s_bipush CX (of_decide_eq_true hm) hdg (hK _ _ _ _ he).2
  case sipush n =>
    have hl : ln = _ := hln.resolve_left (show ¬ (false = true) by decide)
    subst hl
    exact s_sipush CX (of_decide_eq_true hm) hdg (hK _ _ _ _ he).2
  case lconst n =>
    have hl : ln = _ := hln.resolve_left (show ¬ (false = true) by decide)
    subst hl
    exact s_lconst CX hdg (hK _ _ _ _ he).2
  case iload_n n =>
    have hl : ln = _ := hln.resolve_left (show ¬ (false = true) by decide)
    subst hl
    dsimp only [exK] at he
    split at he <;> first | (cases he; done) | skip
    exact s_iload_n CX (by assumption) hdg (hK _ _ _ _ he).2
  case iload n =>
    have hl : ln = _ := hln.resolve_left (show ¬ (false = true) by decide)
    subst hl
    dsimp only [exK] at he
    split at he <;> first | (cases he; done) | skip
    exact s_iload CX (by assumption) hdg (hK _ _ _ _ he).2
  case lload_n n =>
    have hl : ln = _ := hln.resolve_left (show ¬ (false = true) by decide)
    subst hl
    dsimp only [exK] at he
    split at he <;> first | (cases he; done) | skip
    exact s_lload_n CX (by assumption) hdg (hK _ _ _ _ he).2
  case lload n =>
    have hl : ln = _ := hln.resolve_left (show ¬ (false = true) by decide)
    subst hl
    dsimp only [exK] at he
    split at he <;> first | (cases he; done) | skip
    exact s_lload CX (by assumption) hdg (hK _ _ _ _ he).2
  case aload_n n =>
    have hl : ln = _ := hln.resolve_left (show ¬ (false = true) by decide)
    subst hl
    dsimp only [exK] at he
    split at he <;> first | (cases he; done) | skip
    exact s_aload_n CX (by assumption) hdg (hK _ _ _ _ he).2
  case aload n =>
    have hl : ln = _ := hln.resolve_left (show ¬ (false = true) by decide)
    subst hl
    dsimp only [exK] at he
    split at he <;> first | (cases he; done) | skip
    exact s_aload CX (by assumption) hdg (hK _ _ _ _ he).2
  case istore_n n =>
    have hl : ln = _ := hln.resolve_left (show ¬ (false = true) by decide)
    subst hl
    dsimp only [exK] at he
    split at he <;> first | (cases he; done) | skip
    split at he <;> first | (cases he; done) | skip
    exact s_istore_n CX (by assumption) hdg (hK _ _ _ _ he).2
  case istore n =>
    have hl : ln = _ := hln.resolve_left (show ¬ (false = true) by decide)
    subst hl
    dsimp only [exK] at he
    split at he <;> first | (cases he; done) | skip
    split at he <;> first | (cases he; done) | skip
    exact s_istore CX (by assumption) hdg (hK _ _ _ _ he).2
  case astore_n n =>
    have hl : ln = _ := hln.resolve_left (show ¬ (false = true) by decide)
    subst hl
    dsimp only [exK] at he
    split at he <;> first | (cases he; done) | skip
    split at he <;> first | (cases he; done) | skip
    exact s_astore_n CX (by assumption) hdg (hK _ _ _ _ he).2
  case astore n =>
    have hl : ln = _ := hln.resolve_left (show ¬ (false = true) by decide)
    subst hl
    dsimp only [exK] at he
    split at he <;> first | (cases he; done) | skip
    split at he <;> first | (cases he; done) | skip
    exact s_astore CX (by assumption) hdg (hK _ _ _ _ he).2
  case lstore_n n =>
    have hl : ln = _ := hln.resolve_left (show ¬ (false = true) by decide)
    subst hl
    dsimp only [exK] at he
    split at he <;> first | (cases he; done) | skip
    split at he <;> first | (cases he; done) | skip
    exact s_lstore_n CX (by assumption) hdg (hK _ _ _ _ he).2
  case lstore n =>
    have hl : ln = _ := hln.resolve_left (show ¬ (false = true) by decide)
    subst hl
    dsimp only [exK] at he
    split at he <;> first | (cases he; done) | skip
    split at he <;> first | (cases he; done) | skip
    exact s_lstore CX (by assumption) hdg (hK _ _ _ _ he).2
  case iinc i n =>
    have hl : ln = _ := hln.resolve_left (show ¬ (false = true) by decide)
    subst hl
    dsimp only [exK] at he
    split at he <;> first | (cases he; done) | skip
    split at he <;> first | (cases he; done) | skip
    exact s_iinc CX (by assumption) (by assumption) hdg (hK _ _ _ _ he).2
  case dup =>
    have hl : ln = _ := hln.resolve_left (show ¬ (false = true) by decide)
    subst hl
    dsimp only [exK] at he
    split at he
    · exact s_dup CX (Or.inl rfl) hdg (hK _ _ _ _ he).2
    · exact s_dup CX (Or.inr rfl) hdg (hK _ _ _ _ he).2
    · cases he
  case goto f =>
    have hl : ln = _ := hln.resolve_left (show ¬ (false = true) by decide)
    subst hl
    dsimp only [exK] at he
    split at he <;> first | (cases he; done) | skip
    exact s_goto CX (of_decide_eq_true hm) hdg (hK _ _ _ _ he).2
  case ifCond cd0 f =>
    have hl : ln = _ := hln.resolve_left (show ¬ (false = true) by decide)
    subst hl
    dsimp only [exK] at he
    split at he <;> first | (cases he; done) | skip
    have ht := of_decide_eq_true hm
    cases cd0 <;> dsimp only at he
    case eq => exact s_if_eq CX ht hdg (fun q => by first | (rw [if_pos q] at he; exact (hK _ _ _ _ he).2) | (rw [if_neg q] at he; exact (hK _ _ _ _ he).2)) (fun q => by first | (rw [if_pos q] at he; exact (hK _ _ _ _ he).2) | (rw [if_neg q] at he; exact (hK _ _ _ _ he).2))
    case ne => exact s_if_ne CX ht hdg (fun q => by first | (rw [if_pos q] at he; exact (hK _ _ _ _ he).2) | (rw [if_neg q] at he; exact (hK _ _ _ _ he).2)) (fun q => by first | (rw [if_pos q] at he; exact (hK _ _ _ _ he).2) | (rw [if_neg q] at he; exact (hK _ _ _ _ he).2))
    case lt => exact s_if_lt CX ht hdg (fun q => by first | (rw [if_pos q] at he; exact (hK _ _ _ _ he).2) | (rw [if_neg q] at he; exact (hK _ _ _ _ he).2)) (fun q => by first | (rw [if_pos q] at he; exact (hK _ _ _ _ he).2) | (rw [if_neg q] at he; exact (hK _ _ _ _ he).2))
    case ge => exact s_if_ge CX ht hdg (fun q => by first | (rw [if_pos q] at he; exact (hK _ _ _ _ he).2) | (rw [if_neg q] at he; exact (hK _ _ _ _ he).2)) (fun q => by first | (rw [if_pos q] at he; exact (hK _ _ _ _ he).2) | (rw [if_neg q] at he; exact (hK _ _ _ _ he).2))
    case gt => exact s_if_gt CX ht hdg (fun q => by first | (rw [if_pos q] at he; exact (hK _ _ _ _ he).2) | (rw [if_neg q] at he; exact (hK _ _ _ _ he).2)) (fun q => by first | (rw [if_pos q] at he; exact (hK _ _ _ _ he).2) | (rw [if_neg q] at he; exact (hK _ _ _ _ he).2))
    case le => exact s_if_le CX ht hdg (fun q => by first | (rw [if_pos q] at he; exact (hK _ _ _ _ he).2) | (rw [if_neg q] at he; exact (hK _ _ _ _ he).2)) (fun q => by first | (rw [if_pos q] at he; exact (hK _ _ _ _ he).2) | (rw [if_neg q] at he; exact (hK _ _ _ _ he).2))
  case if_icmp cd0 f =>
    have hl : ln = _ := hln.resolve_left (show ¬ (false = true) by decide)
    subst hl
    dsimp only [exK] at he
    split at he <;> first | (cases he; done) | skip
    have ht := of_decide_eq_true hm
    cases cd0 <;> dsimp only at he
    case eq => exact s_icmp_eq CX ht hdg (fun q => by first | (rw [if_pos q] at he; exact (hK _ _ _ _ he).2) | (rw [if_neg q] at he; exact (hK _ _ _ _ he).2)) (fun q => by first | (rw [if_pos q] at he; exact (hK _ _ _ _ he).2) | (rw [if_neg q] at he; exact (hK _ _ _ _ he).2))
    case ne => exact s_icmp_ne CX ht hdg (fun q => by first | (rw [if_pos q] at he; exact (hK _ _ _ _ he).2) | (rw [if_neg q] at he; exact (hK _ _ _ _ he).2)) (fun q => by first | (rw [if_pos q] at he; exact (hK _ _ _ _ he).2) | (rw [if_neg q] at he; exact (hK _ _ _ _ he).2))
    case lt => exact s_icmp_lt CX ht hdg (fun q => by first | (rw [if_pos q] at he; exact (hK _ _ _ _ he).2) | (rw [if_neg q] at he; exact (hK _ _ _ _ he).2)) (fun q => by first | (rw [if_pos q] at he; exact (hK _ _ _ _ he).2) | (rw [if_neg q] at he; exact (hK _ _ _ _ he).2))
    case ge => exact s_icmp_ge CX ht hdg (fun q => by first | (rw [if_pos q] at he; exact (hK _ _ _ _ he).2) | (rw [if_neg q] at he; exact (hK _ _ _ _ he).2)) (fun q => by first | (rw [if_pos q] at he; exact (hK _ _ _ _ he).2) | (rw [if_neg q] at he; exact (hK _ _ _ _ he).2))
    case gt => exact s_icmp_gt CX ht hdg (fun q => by first | (rw [if_pos q] at he; exact (hK _ _ _ _ he).2) | (rw [if_neg q] at he; exact (hK _ _ _ _ he).2)) (fun q => by first | (rw [if_pos q] at he; exact (hK _ _ _ _ he).2) | (rw [if_neg q] at he; exact (hK _ _ _ _ he).2))
    case le => exact s_icmp_le CX ht hdg (fun q => by first | (rw [if_pos q] at he; exact (hK _ _ _ _ he).2) | (rw [if_neg q] at he; exact (hK _ _ _ _ he).2)) (fun q => by first | (rw [if_pos q] at he; exact (hK _ _ _ _ he).2) | (rw [if_neg q] at he; exact (hK _ _ _ _ he).2))
  case if_acmp cd0 f =>
    have hl : ln = _ := hln.resolve_left (show ¬ (false = true) by decide)
    subst hl
    dsimp only [exK] at he
    split at he <;> first | (cases he; done) | skip
    split at he <;> first | (cases he; done) | skip
    rename_i hxz
    have ht := of_decide_eq_true hm
    refine s_acmp CX hxz ht hdg (fun q => ?_) (fun q => ?_)
    · rcases q with ⟨rfl, q⟩ | ⟨rfl, q⟩ <;> dsimp only at he <;> first | (rw [if_pos q] at he; exact (hK _ _ _ _ he).2) | (rw [if_neg q] at he; exact (hK _ _ _ _ he).2)
    · rcases q with ⟨rfl, q⟩ | ⟨rfl, q⟩ <;> dsimp only at he <;> first | (rw [if_pos q] at he; exact (hK _ _ _ _ he).2) | (rw [if_neg q] at he; exact (hK _ _ _ _ he).2)
  case ifnull f =>
    have hl : ln = _ := hln.resolve_left (show ¬ (false = true) by decide)
    subst hl
    dsimp only [exK] at he
    split at he <;> first | (cases he; done) | skip
    exact s_ifnull CX (of_decide_eq_true hm) hdg (fun q => by first | (rw [if_pos q] at he; exact (hK _ _ _ _ he).2) | (rw [if_neg q] at he; exact (hK _ _ _ _ he).2)) (fun q => by first | (rw [if_pos q] at he; exact (hK _ _ _ _ he).2) | (rw [if_neg q] at he; exact (hK _ _ _ _ he).2))
  case ifnonnull f =>
    have hl : ln = _ := hln.resolve_left (show ¬ (false = true) by decide)
    subst hl
    dsimp only [exK] at he
    split at he <;> first | (cases he; done) | skip
    exact s_ifnonnull CX (of_decide_eq_true hm) hdg (fun q => by first | (rw [if_pos q] at he; exact (hK _ _ _ _ he).2) | (rw [if_neg q] at he; exact (hK _ _ _ _ he).2)) (fun q => by first | (rw [if_pos q] at he; exact (hK _ _ _ _ he).2) | (rw [if_neg q] at he; exact (hK _ _ _ _ he).2))
  case getfield i =>
    have hl : ln = _ := hln.resolve_left (show ¬ (false = true) by decide)
    subst hl
    dsimp only [exK] at he
    split at he <;> first | (cases he; done) | skip
    split at he <;> first | (cases he; done) | skip
    simp only [Bool.and_eq_true, Bool.or_eq_true, decide_eq_true_eq] at hm
    rcases hm with ⟨hf | hf, h20⟩
    · exact s_getfield CX hf h20 (by assumption) hdg (hK _ _ _ _ he).2
    · exact s_getfield CX hf h20 (by assumption) hdg (hK _ _ _ _ he).2
  case putfield i =>
    have hl : ln = _ := hln.resolve_left (show ¬ (false = true) by decide)
    subst hl
    dsimp only [exK] at he
    split at he <;> first | (cases he; done) | skip
    split at he <;> first | (cases he; done) | skip
    rename_i hut
    subst hut
    split at he <;> first | (cases he; done) | skip
    split at he <;> first | (cases he; done) | skip
    rw [Bool.and_eq_true, Bool.and_eq_true, decide_eq_true_eq] at hm
    exact s_putfield CX hm.1.1 hm.1.2 hm.2 (by assumption) (by assumption) hdg (hK _ _ _ _ he).2
  case iaload =>
    have hl : ln = _ := hln.resolve_left (show ¬ (false = true) by decide)
    subst hl
    dsimp only [exK] at he
    split at he <;> first | (cases he; done) | skip
    split at he <;> first | (cases he; done) | skip
    split at he <;> first | (cases he; done) | skip
    exact s_iaload CX (by assumption) (by assumption) hdg (hK _ _ _ _ he).2
  case laload =>
    have hl : ln = _ := hln.resolve_left (show ¬ (false = true) by decide)
    subst hl
    dsimp only [exK] at he
    split at he <;> first | (cases he; done) | skip
    split at he <;> first | (cases he; done) | skip
    split at he <;> first | (cases he; done) | skip
    exact s_laload CX (by assumption) (by assumption) hdg (hK _ _ _ _ he).2
  case caload =>
    have hl : ln = _ := hln.resolve_left (show ¬ (false = true) by decide)
    subst hl
    dsimp only [exK] at he
    split at he <;> first | (cases he; done) | skip
    split at he <;> first | (cases he; done) | skip
    split at he <;> first | (cases he; done) | skip
    exact s_caload CX (by assumption) (by assumption) hdg (hK _ _ _ _ he).2
  case baload =>
    have hl : ln = _ := hln.resolve_left (show ¬ (false = true) by decide)
    subst hl
    dsimp only [exK] at he
    split at he <;> first | (cases he; done) | skip
    split at he <;> first | (cases he; done) | skip
    rename_i ho
    split at he <;> first | (cases he; done) | skip
    rename_i hi
    have hm := of_decide_eq_true hm
    exact s_baload CX (by omega) ho hi hdg (hK _ _ _ _ he).2
  case aaload =>
    have hl : ln = _ := hln.resolve_left (show ¬ (false = true) by decide)
    subst hl
    dsimp only [exK] at he
    split at he <;> first | (cases he; done) | skip
    split at he <;> first | (cases he; done) | skip
    rename_i ho
    split at he <;> first | (cases he; done) | skip
    rename_i hi
    have hm := of_decide_eq_true hm
    exact s_aaload CX (by omega) ho hi hdg (hK _ _ _ _ he).2
  case iastore =>
    have hl : ln = _ := hln.resolve_left (show ¬ (false = true) by decide)
    subst hl
    dsimp only [exK] at he
    split at he <;> first | (cases he; done) | skip
    split at he <;> first | (cases he; done) | skip
    split at he <;> first | (cases he; done) | skip
    exact s_iastore CX (by assumption) (by assumption) hdg (hK _ _ _ _ he).2
  case lastore =>
    have hl : ln = _ := hln.resolve_left (show ¬ (false = true) by decide)
    subst hl
    dsimp only [exK] at he
    split at he <;> first | (cases he; done) | skip
    split at he <;> first | (cases he; done) | skip
    split at he <;> first | (cases he; done) | skip
    exact s_lastore CX (by assumption) (by assumption) hdg (hK _ _ _ _ he).2
  case castore =>
    have hl : ln = _ := hln.resolve_left (show ¬ (false = true) by decide)
    subst hl
    dsimp only [exK] at he
    split at he <;> first | (cases he; done) | skip
    split at he <;> first | (cases he; done) | skip
    split at he <;> first | (cases he; done) | skip
    exact s_castore CX (by assumption) (by assumption) hdg (hK _ _ _ _ he).2
  case bastore =>
    have hl : ln = _ := hln.resolve_left (show ¬ (false = true) by decide)
    subst hl
    dsimp only [exK] at he
    split at he <;> first | (cases he; done) | skip
    split at he <;> first | (cases he; done) | skip
    split at he <;> first | (cases he; done) | skip
    split at he <;> first | (cases he; done) | skip
    exact s_bastore CX (by assumption) (by assumption) (by assumption) hdg (hK _ _ _ _ he).2
  case aastore =>
    have hl : ln = _ := hln.resolve_left (show ¬ (false = true) by decide)
    subst hl
    dsimp only [exK] at he
    split at he <;> first | (cases he; done) | skip
    split at he <;> first | (cases he; done) | skip
    rename_i ho
    split at he <;> first | (cases he; done) | skip
    rename_i hi
    split at he <;> first | (cases he; done) | skip
    rename_i hve
    have hm := of_decide_eq_true hm
    exact s_aastore CX (by omega) ho hi hve hdg (hK _ _ _ _ he).2
  case arraylength =>
    have hl : ln = _ := hln.resolve_left (show ¬ (false = true) by decide)
    subst hl
    dsimp only [exK] at he
    split at he <;> first | (cases he; done) | skip
    split at he <;> first | (cases he; done) | skip
    rename_i ho
    have hk := of_decide_eq_true hm
    intro lsR H locs hR hl hv hS hc hs
    exact s_alen CX (by omega) ho (len_lt CX.2.2.2.2.2.1 hR (by omega) ho) hdg (hK _ _ _ _ he).2 lsR H locs hR hl hv hS hc hs
  case ldc i =>
    have hl : ln = _ := hln.resolve_left (show ¬ (false = true) by decide)
    subst hl
    dsimp only [exK] at he
    split at he <;> first | (cases he; done) | skip
    simp only [Bool.or_eq_true, decide_eq_true_eq] at hm
    rcases hm with ⟨rfl, hm⟩ | ⟨rfl, hm⟩
    · exact s_ldcI CX hm hdg (hK _ _ _ _ he).2
    · exact s_ldcS CX hm hdg (hK _ _ _ _ he).2
  case ldc2_w i =>
    have hl : ln = _ := hln.resolve_left (show ¬ (false = true) by decide)
    subst hl
    dsimp only [exK] at he
    split at he <;> first | (cases he; done) | skip
    exact s_ldc2 CX (of_decide_eq_true hm) hdg (hK _ _ _ _ he).2
  case getstatic i =>
    have hl : ln = _ := hln.resolve_left (show ¬ (false = true) by decide)
    subst hl
    dsimp only [exK] at he
    split at he <;> first | (cases he; done) | skip
    exact s_getstatic CX hm hdg (hK _ _ _ _ he).2
  case new i =>
    have hl : ln = _ := hln.resolve_left (show ¬ (false = true) by decide)
    subst hl
    dsimp only [exK] at he
    split at he
    · split at he <;> first | (cases he; done) | skip
      have hn := of_decide_eq_true hm
      obtain ⟨⟨hc1, hc2⟩, hk2⟩ := hK _ _ _ _ he
      obtain ⟨hn1, hn2, hn3⟩ := hn
      rw [hn3, Int.toNat_natCast] at hc1 hc2 hk2
      rw [cnt_alc] at hc1
      rw [ssum_alc] at hc2
      exact s_new CX hn1 (by assumption) ⟨by omega, by omega⟩ hdg hk2
    · exact hEnd rfl
    · cases he
  case newarray t =>
    have hl : ln = _ := hln.resolve_left (show ¬ (false = true) by decide)
    subst hl
    dsimp only [exK] at he
    split at he <;> first | (cases he; done) | skip
    split at he <;> first | (cases he; done) | skip
    split at he <;> first | (cases he; done) | skip
    obtain ⟨⟨hc1, hc2⟩, hk2⟩ := hK _ _ _ _ he
    rw [cnt_alc] at hc1
    rw [ssum_alc] at hc2
    exact s_newarray CX (of_decide_eq_true hm) (by assumption) (by assumption) ⟨by omega, by omega⟩ hdg hk2
  case anewarray i =>
    have hl : ln = _ := hln.resolve_left (show ¬ (false = true) by decide)
    subst hl
    dsimp only [exK] at he
    split at he <;> first | (cases he; done) | skip
    split at he <;> first | (cases he; done) | skip
    split at he <;> first | (cases he; done) | skip
    obtain ⟨⟨hc1, hc2⟩, hk2⟩ := hK _ _ _ _ he
    rw [cnt_alc] at hc1
    rw [ssum_alc] at hc2
    exact s_anewarray CX (of_decide_eq_true hm) (by assumption) (by assumption) ⟨by omega, by omega⟩ hdg hk2
  case multianewarray i dd =>
    have hl : ln = _ := hln.resolve_left (show ¬ (false = true) by decide)
    subst hl
    dsimp only [exK] at he
    split at he <;> first | (cases he; done) | skip
    split at he <;> first | (cases he; done) | skip
    split at he <;> first | (cases he; done) | skip
    obtain ⟨hm1, rfl⟩ := of_decide_eq_true hm
    obtain ⟨⟨hc1, hc2⟩, hk2⟩ := hK _ _ _ _ he
    rw [cnt_mal] at hc1
    rw [ssum_mal] at hc2
    exact s_multi CX hm1 (by assumption) (by assumption) ⟨by omega, by omega⟩ hdg hk2
  case tableswitch d lo hi fs =>
    dsimp only [exK] at he
    split at he <;> first | (cases he; done) | skip
    rw [Bool.and_eq_true] at hm
    obtain ⟨⟨h1, h2, rfl, h3, h4⟩, h5⟩ := And.intro (of_decide_eq_true hm.1) hm.2
    exact s_tableswitch CX ⟨h1, h2⟩ h3 h4 (fun f hf => of_decide_eq_true (List.all_eq_true.mp h5 f hf)) hdg he (fun t ht => (hK _ _ _ _ ht).2)
  case lookupswitch d ps =>
    dsimp only [exK] at he
    split at he <;> first | (cases he; done) | skip
    rw [Bool.and_eq_true] at hm
    obtain ⟨⟨h1, h2, rfl, h3⟩, h5⟩ := And.intro (of_decide_eq_true hm.1) hm.2
    exact s_lookupswitch CX ⟨h1, h2⟩ h3 (fun f hf => of_decide_eq_true (List.all_eq_true.mp h5 f hf)) hdg he (fun t ht => (hK _ _ _ _ ht).2)
  case invokespecial i =>
    have hl : ln = _ := hln.resolve_left (show ¬ (false = true) by decide)
    subst hl
    dsimp only [exK] at he
    split at he
    · split at he <;> first | (cases he; done) | skip
      split at he <;> first | (cases he; done) | skip
      split at he <;> first | (cases he; done) | skip
      exact s_objinit CX (of_decide_eq_true hm) (by assumption) ⟨hF.1, by omega⟩ (by assumption) hdg (hK _ _ _ _ he).2
    · rename_i z n q
      split at he <;> first | (cases he; done) | skip
      rename_i a as hst
      split at he <;> first | (cases he; done) | skip
      rename_i ha0
      split at he <;> first | (cases he; done) | skip
      rename_i hr8
      rw [Bool.and_eq_true, decide_eq_true_eq] at hm
      obtain ⟨hq9, hm⟩ := hm
      subst hq9
      obtain ⟨ne, np, hi, hne, hnp⟩ := ca_of (P := fun np => decide ((np : Int) + 1 = n)) hm
      have hnp := of_decide_eq_true hnp
      obtain ⟨dd, v, h1, c1, c2, c3, c4, c5, c6, c7⟩ := hC _ _ _ _ _ _ _ rfl hE rfl he
      obtain ⟨hst2, hlen⟩ := stk_of hst hr8.1
      intro lsR H locs hR hl hv hS hc hs
      generalize st.drop n.toNat = rest at *
      subst hst2
      exact s_ctor CX hi hne ha0 (c2 (mp_nm (CA_ok _ hi).2.2.2.2.2.2.2) (vok_as hv)) (c3.trans rfl) (by omega) hr8.2 c4 ⟨by omega, by omega, c5.1, c5.2⟩ hdg c7 lsR H locs hR hl hv hS hc hs
    · cases he
  case invokevirtual i =>
    have hl : ln = _ := hln.resolve_left (show ¬ (false = true) by decide)
    subst hl
    dsimp only [exK] at he
    split at he <;> first | (cases he; done) | skip
    rename_i z n q k
    split at he <;> first | (cases he; done) | skip
    rename_i a as hst
    split at he <;> first | (cases he; done) | skip
    rename_i ho
    split at he <;> first | (cases he; done) | skip
    rename_i hr8
    obtain ⟨dd, v, h1, c1, c2, c3, c4, c5, c6, c7⟩ := hC _ _ _ _ _ _ _ rfl hE rfl he
    obtain ⟨hst2, hlen⟩ := stk_of hst hr8.1
    intro lsR H locs hR hl hv hS hc hs
    rw [Bool.or_eq_true, Bool.and_eq_true, decide_eq_true_eq] at hm
    generalize st.drop n.toNat = rest at *
    subst hst2
    rcases hm with ⟨⟨h20, hkc⟩, hm⟩ | hm
    · obtain ⟨ne, np, hi, hne, hnp⟩ := ca_of (P := fun np => decide ((np : Int) + 1 = n)) hm
      have hnp := of_decide_eq_true hnp
      exact s_virtual CX hi hne (by omega) hkc ho (c2 (mp_nm (CA_ok _ hi).2.2.2.2.2.2.2) (vok_as hv)) c3 (by omega) hr8.2 c4 ⟨by omega, by omega, c5.1, c5.2⟩ hdg c7 lsR H locs hR hl hv hS hc hs
    · obtain ⟨hi, rfl, rfl, rfl⟩ := of_decide_eq_true hm
      have has : as = [] := List.eq_nil_of_length_eq_zero (by omega)
      subst has
      exact s_ord CX hi ho (c2 (Or.inl (by decide)) (vok_as hv)) c3 hr8.2 c4 ⟨by omega, by omega, c5.1, c5.2⟩ hdg c7 lsR H locs hR hl hv hS hc hs
  case invokestatic i =>
    have hl : ln = _ := hln.resolve_left (show ¬ (false = true) by decide)
    subst hl
    dsimp only [exK] at he
    split at he
    · rename_i z n q
      rw [Bool.or_eq_true, decide_eq_true_eq] at hm
      rcases hm with hm | hm | hm
      case inr.inl => exact hEnd (by subst hm; rfl)
      case inr.inr => subst hm; split at he <;> first | (cases he; done) | skip; obtain ⟨dd, v, h1, c1, -⟩ := hC _ _ _ _ _ _ _ rfl hE rfl he; exact absurd c1 C_9999
      split at he <;> first | (cases he; done) | skip
      rename_i hr8
      obtain ⟨dd, v, h1, c1, c2, c3, c4, c5, c6, c7⟩ := hC _ _ _ _ _ _ _ rfl hE rfl he
      obtain ⟨as, has⟩ : ∃ as, as = (st.take n.toNat).reverse := ⟨_, rfl⟩
      have hlen : as.length = n.toNat := by rw [has]; simp; omega
      have hst2 : st = as.reverse ++ st.drop n.toNat := by rw [has, List.reverse_reverse, List.take_append_drop]
      rw [← has] at c1 c2
      intro lsR H locs hR hl hv hS hc hs
      rw [Bool.or_eq_true] at hm
      clear has
      generalize st.drop n.toNat = rest at *
      subst hst2
      rcases hm with hm | hm
      · obtain ⟨ne, np, hi, hne, hnp⟩ := ca_of (P := fun np => decide ((np : Int) = n)) hm
        have hnp := of_decide_eq_true hnp
        exact s_static CX hi hne (c2 (mp_nm (CA_ok _ hi).2.2.2.2.2.2.2) (vok_as0 hv)) c3 (by omega) hr8.2 c4 ⟨by omega, by omega, c5.1, c5.2⟩ hdg c7 lsR H locs hR hl hv hS hc hs
      · obtain ⟨hi, hzn⟩ := of_decide_eq_true hm
        exact s_math CX hi hzn hlen c1 c3 hr8.2 ⟨hF.1, by omega⟩ ⟨by omega, by omega⟩ hdg c7 lsR H locs hR hl hv hS hc hs
    · split at he <;> first | (cases he; done) | skip
      split at he <;> first | (cases he; done) | skip
      split at he <;> first | (cases he; done) | skip
      split at he <;> first | (cases he; done) | skip
      split at he <;> first | (cases he; done) | skip
      exact s_copy CX (of_decide_eq_true hm) (by assumption) (by assumption) (by assumption) (by assumption) hF hdg (hK _ _ _ _ he).2
    · cases he
  case ireturn =>
    exact hEnd rfl
  case lreturn =>
    exact hEnd rfl
  case areturn =>
    exact hEnd rfl
  case return_ =>
    exact hEnd rfl
  all_goals (exact absurd he (by dsimp only [exK]; exact nofun))
end ST9
