/-! runs of the small machine, and the value V of a run -/
def cd (y pc : Nat) : Option ME := ((MCs[y]?).getD []).lookup pc
def kil (kl : List Nat) (ls : List MV) : List MV := kl.foldl (fun l i => l.set i (9, 0)) ls
def nlo (y : Nat) : Nat := (NLs[y]?).getD 0
/-- a method's locals at its entry -/
def lay : List MV → List MV
  | [] => []
  | (1, x) :: l => (1, x) :: (9, 0) :: lay l
  | v :: l => v :: lay l
def loc0 (y : Nat) (as : List MV) : List MV := lay as ++ List.replicate (nlo y - (lay as).length) (9, 0)
abbrev OC := (Nat × List MV × List MV × Hp) ⊕ ((MV × Hp) ⊕ (Nat × List MV × Nat × Nat × List MV × List MV × Hp))
def stp (ins : Instr) (ax : List Int) (pc : Nat) (ls s : List MV) (h : Hp) : Option OC :=
  exK (fun pc ls s h => some (.inl (pc, ls, s, h))) (fun v h => some (.inr (.inl (v, h)))) (fun y as q pc ls s h => some (.inr (.inr (y, as, q, pc, ls, s, h)))) ins ax pc ls s h
def fin {R : Type} (K : Nat → List MV → List MV → Hp → Option R) (T : MV → Hp → Option R) (Cl : Nat → List MV → Nat → Nat → List MV → List MV → Hp → Option R) : Option OC → Option R
  | none => none
  | some (.inl (pc, ls, s, h)) => K pc ls s h
  | some (.inr (.inl (v, h))) => T v h
  | some (.inr (.inr (y, as, q, pc, ls, s, h))) => Cl y as q pc ls s h
theorem swk_fin {R S : Type} (K : Int → Option R) (K' : Int → Option S) (f : Option R → Option S) (hK : ∀ t, f (K t) = K' t) (d x : Int) : ∀ l : List Int, f (swk K d x l) = swk K' d x l
  | [] => hK d
  | [_] => hK d
  | k :: t :: r => by
    unfold swk
    split
    · exact hK t
    · exact swk_fin K K' f hK d x r
set_option maxHeartbeats 4000000 in
theorem exK_fin {R : Type} (K : Nat → List MV → List MV → Hp → Option R) (T : MV → Hp → Option R) (Cl : Nat → List MV → Nat → Nat → List MV → List MV → Hp → Option R) (ins : Instr) (ax : List Int) (pc : Nat) (ls s : List MV) (h : Hp) :
    exK K T Cl ins ax pc ls s h = fin K T Cl (stp ins ax pc ls s h) := by
  unfold stp
  cases ins <;> first | rfl | (dsimp only [exK]; repeat' (first | rfl | (exact (swk_fin (fun t : Int => some (Sum.inl (t.toNat, ls, _, h))) (fun t : Int => K t.toNat ls _ h) (fin K T Cl) (fun t => rfl) _ _ _).symm) | split))
def klo (y pc : Nat) : List Nat := match cd y pc with | some e => e.2.2.1 | none => []
def run : Nat → Nat → Nat → Nat → List MV → List MV → Hp → Option MR
  | 0, _, _, _, _, _, _ => none
  | n + 1, d, y, pc, ls, s, h => match cd y pc with
    | none => none
    | some e => match stp e.1 e.2.2.2 pc (kil e.2.2.1 ls) s h with
      | none => none
      | some (.inl (pc', ls', s', h')) => run n d y pc' ls' s' h'
      | some (.inr (.inl r)) => some r
      | some (.inr (.inr (z, as, q, pc', ls', s', h'))) => match d with
        | 0 => none
        | d' + 1 => match (if (lay as).length ≤ nlo z then run n d' z 0 (loc0 z as) [] h' else none) with
          | none => none
          | some (v, h'') => if v.1 = q then run n (d' + 1) y pc' ls' (if q = 9 then s' else (q, v.2) :: s') h'' else none
theorem run_mono : ∀ (n d y pc : Nat) (ls s : List MV) (h : Hp) (r : MR), run n d y pc ls s h = some r → run (n + 1) d y pc ls s h = some r := by
  intro n
  induction n with
  | zero => intro d y pc ls s h r e; cases e
  | succ n ih =>
    intro d y pc ls s h r e
    unfold run at e ⊢
    cases hc : cd y pc with
    | none => rw [hc] at e; cases e
    | some en =>
      rw [hc] at e
      dsimp only at e ⊢
      cases hs : stp en.1 en.2.2.2 pc (kil en.2.2.1 ls) s h with
      | none => rw [hs] at e; cases e
      | some o =>
        rw [hs] at e
        rcases o with ⟨pc', ls', s', h'⟩ | r' | ⟨z, as, q, pc', ls', s', h'⟩
        · exact ih _ _ _ _ _ _ _ e
        · exact e
        · cases d with
          | zero => cases e
          | succ d =>
            dsimp only at e ⊢
            by_cases hfit : (lay as).length ≤ nlo z
            case neg => rw [if_neg hfit] at e; cases e
            rw [if_pos hfit] at e
            rw [if_pos hfit]
            cases hr : run n d z 0 (loc0 z as) [] h' with
            | none => rw [hr] at e; cases e
            | some w =>
              rw [hr] at e
              rw [ih _ _ _ _ _ _ _ hr]
              dsimp only at e ⊢
              split at e
              · rename_i hq
                rw [if_pos hq]
                exact ih _ _ _ _ _ _ _ e
              · cases e
theorem run_le {n m d y pc : Nat} {ls s : List MV} {h : Hp} {r : MR} (hn : n ≤ m) (e : run n d y pc ls s h = some r) : run m d y pc ls s h = some r := by
  induction hn with
  | refl => exact e
  | step _ ih => exact run_mono _ _ _ _ _ _ _ _ ih
/-- what a run comes to, if it ends -/
noncomputable def V (d y pc : Nat) (ls s : List MV) (h : Hp) : Option MR := @dite _ (∃ n, (run n d y pc ls s h).isSome = true) (Classical.propDecidable _) (fun H => run H.choose d y pc ls s h) (fun _ => none)
theorem V_iff {d y pc : Nat} {ls s : List MV} {h : Hp} {r : MR} : V d y pc ls s h = some r ↔ ∃ n, run n d y pc ls s h = some r := by
  unfold V
  constructor
  · intro e
    split at e
    · exact ⟨_, e⟩
    · cases e
  · rintro ⟨n, e⟩
    have H : ∃ n, (run n d y pc ls s h).isSome = true := ⟨n, by rw [e]; rfl⟩
    rw [dif_pos H]
    obtain ⟨w, hw⟩ := Option.isSome_iff_exists.mp H.choose_spec
    have h1 := run_le (Nat.le_max_left n H.choose) e
    have h2 := run_le (Nat.le_max_right n H.choose) hw
    rw [hw, ← h2, h1]
/-- a method called -/
noncomputable def C (d y : Nat) (as : List MV) (h : Hp) : Option MR := if (lay as).length ≤ nlo y then V d y 0 (loc0 y as) [] h else none
noncomputable def Cl (d y : Nat) (as : List MV) (q : Nat) (h : Hp) (k : Int → Hp → Option MR) : Option MR := match d with
  | 0 => none
  | d' + 1 => (C d' y as h).bind (fun r => if r.1.1 = q then k r.1.2 r.2 else none)
theorem Cl_eq {d y : Nat} {as : List MV} {q : Nat} {h h' : Hp} {v : Int} (k : Int → Hp → Option MR) (e : C d y as h = some ((q, v), h')) : Cl (d + 1) y as q h k = k v h' := by
  show (C d y as h).bind _ = _
  rw [e]
  exact if_pos rfl
theorem C_fit {d y : Nat} {as : List MV} {h : Hp} {r : MR} (e : C d y as h = some r) : (lay as).length ≤ nlo y ∧ V d y 0 (loc0 y as) [] h = some r := by
  by_cases q : (lay as).length ≤ nlo y
  · exact ⟨q, (if_pos q).symm.trans e⟩
  · unfold C at e; rw [if_neg q] at e; cases e
theorem C_of {d y : Nat} {as : List MV} {h : Hp} (q : (lay as).length ≤ nlo y) : C d y as h = V d y 0 (loc0 y as) [] h := if_pos q
theorem opt_ext {α : Type} {a b : Option α} (h : ∀ r, a = some r ↔ b = some r) : a = b := by
  cases a with
  | none => cases b with
    | none => rfl
    | some r => exact (h r).mpr rfl
  | some r => exact ((h r).mp rfl).symm
theorem V_step {d y pc : Nat} {ls s : List MV} {h : Hp} {e : ME} (hc : cd y pc = some e) :
    V d y pc ls s h = exK (fun pc' ls' s' h' => V d y pc' ls' s' h') (fun v h' => some (v, h')) (fun z as q pc' ls' s' h' => Cl d z as q h' (fun v h'' => V d y pc' ls' (if q = 9 then s' else (q, v) :: s') h'')) e.1 e.2.2.2 pc (kil e.2.2.1 ls) s h := by
  rw [exK_fin]
  apply opt_ext
  intro r
  rw [V_iff]
  constructor
  · rintro ⟨n, e1⟩
    cases n with
    | zero => cases e1
    | succ n =>
      unfold run at e1
      rw [hc] at e1
      dsimp only at e1
      cases hs : stp e.1 e.2.2.2 pc (kil e.2.2.1 ls) s h with
      | none => rw [hs] at e1; cases e1
      | some o =>
        rw [hs] at e1
        rcases o with ⟨pc', ls', s', h'⟩ | r' | ⟨z, as, q, pc', ls', s', h'⟩
        · exact V_iff.mpr ⟨n, e1⟩
        · exact e1
        · cases d with
          | zero => cases e1
          | succ d =>
            dsimp only at e1
            by_cases hfit : (lay as).length ≤ nlo z
            case neg => rw [if_neg hfit] at e1; cases e1
            rw [if_pos hfit] at e1
            cases hr : run n d z 0 (loc0 z as) [] h' with
            | none => rw [hr] at e1; cases e1
            | some w =>
              rw [hr] at e1
              show (C d z as h').bind _ = some r
              rw [show C d z as h' = some w from (if_pos hfit).trans (V_iff.mpr ⟨n, hr⟩)]
              dsimp only at e1
              show (if w.1.1 = q then _ else none) = some r
              split at e1
              · rename_i hq
                rw [if_pos hq]
                exact V_iff.mpr ⟨n, e1⟩
              · cases e1
  · intro e1
    cases hs : stp e.1 e.2.2.2 pc (kil e.2.2.1 ls) s h with
    | none => rw [hs] at e1; cases e1
    | some o =>
      rw [hs] at e1
      rcases o with ⟨pc', ls', s', h'⟩ | r' | ⟨z, as, q, pc', ls', s', h'⟩
      · obtain ⟨n, hn⟩ := V_iff.mp e1
        refine ⟨n + 1, ?_⟩
        unfold run
        rw [hc]; dsimp only; rw [hs]; exact hn
      · refine ⟨1, ?_⟩
        unfold run
        rw [hc]; dsimp only; rw [hs]; exact e1
      · cases d with
        | zero => cases e1
        | succ d =>
          change (C d z as h').bind _ = some r at e1
          cases hC : C d z as h' with
          | none => rw [hC] at e1; cases e1
          | some w =>
            rw [hC] at e1
            change (if w.1.1 = q then _ else none) = some r at e1
            split at e1
            case isFalse => cases e1
            rename_i hq
            have hfit : (lay as).length ≤ nlo z := by
              by_cases q : (lay as).length ≤ nlo z
              · exact q
              · unfold C at hC; rw [if_neg q] at hC; cases hC
            have hC2 : V d z 0 (loc0 z as) [] h' = some w := (if_pos hfit).symm.trans hC
            obtain ⟨n1, h1⟩ := V_iff.mp hC2
            obtain ⟨n2, h2⟩ := V_iff.mp e1
            refine ⟨max n1 n2 + 1, ?_⟩
            unfold run
            rw [hc]; dsimp only; rw [hs]; dsimp only
            rw [if_pos hfit, run_le (Nat.le_max_left n1 n2) h1]
            dsimp only
            rw [if_pos hq]
            exact run_le (Nat.le_max_right n1 n2) h2
theorem kil_idem (kl : List Nat) (ls : List MV) : kil kl (kil kl ls) = kil kl ls := by
  have comm : ∀ (i : Nat) (k : List Nat) (l : List MV), (kil k l).set i (9, 0) = kil k (l.set i (9, 0)) := by
    intro i k
    induction k with
    | nil => intro l; rfl
    | cons a k ih =>
      intro l
      show (kil k (l.set a (9, 0))).set i (9, 0) = kil k ((l.set i (9, 0)).set a (9, 0))
      rw [ih]
      by_cases h : a = i
      · subst h; rfl
      · rw [List.set_comm _ _ h]
  induction kl generalizing ls with
  | nil => rfl
  | cons a k ih =>
    show kil k ((kil k (ls.set a (9, 0))).set a (9, 0)) = kil k (ls.set a (9, 0))
    rw [comm, List.set_set, ih]
theorem V_kil (d y pc : Nat) (ls s : List MV) (h : Hp) : V d y pc ls s h = V d y pc (kil (klo y pc) ls) s h := by
  unfold klo
  cases hc : cd y pc with
  | none => rfl
  | some e => rw [V_step hc, V_step hc]; dsimp only; rw [kil_idem]
/-- a stretch of instructions, one behind another; kt tells which locals are dead at the places that it leaves for -/
noncomputable def exL (d y : Nat) (kt : List (Nat × List Nat)) : List ME → Nat → List MV → List MV → Hp → Option MR
  | [], pc, ls, s, h => V d y pc (kil ((kt.lookup pc).getD []) ls) s h
  | e :: L, pc, ls, s, h => exK (fun pc' ls' s' h' => if pc' = pc + e.2.1 then exL d y kt L pc' ls' s' h' else V d y pc' (kil ((kt.lookup pc').getD []) ls') s' h') (fun v h' => some (v, h')) (fun z as q pc' ls' s' h' => Cl d z as q h' (fun v h'' => exL d y kt L pc' ls' (if q = 9 then s' else (q, v) :: s') h'')) e.1 e.2.2.2 pc (kil e.2.2.1 ls) s h
def isCall (i : Instr) : Bool := match i with
  | .invokespecial _ => true | .invokevirtual _ => true | .invokestatic _ => true | _ => false
def chk (y : Nat) : List ME → Nat → Bool
  | [], _ => true
  | e :: L, pc => decide (cd y pc = some e) && (!isCall e.1 || e.2.1 == 3) && chk y L (pc + e.2.1)
def chkT (y : Nat) (kt : List (Nat × List Nat)) : Bool := kt.all (fun q => klo y q.1 == q.2)
theorem V_kt {d y : Nat} {kt : List (Nat × List Nat)} (hk : chkT y kt = true) (pc : Nat) (ls s : List MV) (h : Hp) : V d y pc (kil ((kt.lookup pc).getD []) ls) s h = V d y pc ls s h := by
  cases hl : kt.lookup pc with
  | none => rfl
  | some k =>
    have hm : (pc, k) ∈ kt := by
      have := List.lookup_eq_some_iff.mp hl
      obtain ⟨l1, l2, e, -⟩ := this
      rw [e]; simp
    have := List.all_eq_true.mp hk (pc, k) hm
    have hk2 : klo y pc = k := by simpa using this
    show V d y pc (kil k ls) s h = _
    rw [← hk2, ← V_kil]
theorem exK_congr {R : Type} {K K' : Nat → List MV → List MV → Hp → Option R} {T : MV → Hp → Option R} {Cl Cl' : Nat → List MV → Nat → Nat → List MV → List MV → Hp → Option R} (ins : Instr) (ax : List Int) (pc : Nat) (ls s : List MV) (h : Hp) (hK : ∀ p l t g, K p l t g = K' p l t g) (hC : isCall ins = true → ∀ z as q l t g, Cl z as q (pc + 3) l t g = Cl' z as q (pc + 3) l t g) :
    exK K T Cl ins ax pc ls s h = exK K' T Cl' ins ax pc ls s h := by
  have e : K = K' := by funext p l t g; exact hK p l t g
  subst e
  cases ins <;> first | rfl | (have hC := hC rfl; dsimp only [exK]; repeat' (first | rfl | (exact hC _ _ _ _ _ _) | split))
theorem V_blk (d y : Nat) (kt : List (Nat × List Nat)) (hk : chkT y kt = true) : ∀ (L : List ME) (pc : Nat) (ls s : List MV) (h : Hp), chk y L pc = true → V d y pc ls s h = exL d y kt L pc ls s h
  | [], pc, ls, s, h, _ => (V_kt hk pc ls s h).symm
  | e :: L, pc, ls, s, h, hc => by
    simp only [chk, Bool.and_eq_true, Bool.or_eq_true, beq_iff_eq, Bool.not_eq_true', decide_eq_true_eq] at hc
    obtain ⟨⟨h1, h2⟩, h3⟩ := hc
    rw [V_step h1]
    unfold exL
    apply exK_congr
    · intro p l t g
      split
      · rename_i hp
        rw [hp]
        exact V_blk d y kt hk L _ _ _ _ h3
      · exact (V_kt hk _ _ _ _).symm
    · intro hi z as q l t g
      congr 1
      funext v h''
      rcases h2 with h2 | h2
      · rw [hi] at h2; cases h2
      · rw [← h2]
        exact V_blk d y kt hk L _ _ _ _ h3
