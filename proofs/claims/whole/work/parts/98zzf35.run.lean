/-! a run of the small machine is a run of the machine -/
def up (h h' : Hp) : Prop := cnt h ≤ cnt h' ∧ ssum h ≤ ssum h'
theorem up_rf (h : Hp) : up h h := ⟨Nat.le_refl _, Nat.le_refl _⟩
theorem up_tr {a b c : Hp} (h1 : up a b) (h2 : up b c) : up a c := ⟨Nat.le_trans h1.1 h2.1, Nat.le_trans h1.2 h2.2⟩
theorem up_alc (h : Hp) (k n : Nat) : up h (alc h k n) := ⟨by rw [cnt_alc]; omega, by rw [ssum_alc]; omega⟩
theorem up_mal (h : Hp) (n k : Nat) : up h (mal h n k) := ⟨by rw [cnt_mal]; omega, by rw [ssum_mal]; omega⟩
theorem up_thr (h : Hp) : up h (thr h) := ⟨by show h.2.1.length + h.2.2.2 ≤ h.2.1.length + (h.2.2.2 + 1); omega, by show (h.2.1.map Prod.snd).sum + h.2.2.2 * EXS ≤ (h.2.1.map Prod.snd).sum + (h.2.2.2 + 1) * EXS; unfold EXS; omega⟩
def upo (h : Hp) : OC → Prop
  | .inl (_, _, _, h') => up h h'
  | .inr (.inl (_, h')) => up h h'
  | .inr (.inr (_, _, _, _, _, _, h')) => h' = h
theorem swk_up {h : Hp} {ls r : List MV} {d x : Int} {o : OC} : ∀ {ks : List Int}, swk (fun t => (some (.inl (t.toNat, ls, r, h)) : Option OC)) d x ks = some o → upo h o
  | [], e => by cases e; exact up_rf h
  | [_], e => by cases e; exact up_rf h
  | k :: t :: ks, e => by
    unfold swk at e
    split at e
    · cases e; exact up_rf h
    · exact swk_up e
set_option maxHeartbeats 8000000 in
theorem stp_up {ins : Instr} {ax : List Int} {pc : Nat} {ls s : List MV} {h : Hp} {o : OC} (e : stp ins ax pc ls s h = some o) : upo h o := by
  unfold stp at e
  cases ins <;> first
    | (cases e; done)
    | (dsimp only [exK] at e
       repeat' split at e
       all_goals first
         | (cases e; done)
         | (cases e; exact up_rf _)
         | (cases e; exact up_alc _ _ _)
         | (cases e; exact up_mal _ _ _)
         | (cases e; exact up_thr _)
         | (cases e; exact rfl)
         | (exact swk_up e))
theorem run_up : ∀ (n : Nat) {d y pc : Nat} {ls s : List MV} {h : Hp} {r : MR}, run n d y pc ls s h = some r → up h r.2 := by
  intro n
  induction n with
  | zero => intro d y pc ls s h r e; cases e
  | succ n ih =>
    intro d y pc ls s h r e
    unfold run at e
    cases hc : cd y pc with
    | none => rw [hc] at e; cases e
    | some en =>
      rw [hc] at e
      dsimp only at e
      cases hs : stp en.1 en.2.2.2 pc (kil en.2.2.1 ls) s h with
      | none => rw [hs] at e; cases e
      | some o =>
        rw [hs] at e
        have hu := stp_up hs
        rcases o with ⟨pc', ls', s', h'⟩ | r' | ⟨z, as, q, pc', ls', s', h'⟩
        · exact up_tr hu (ih e)
        · cases e; exact hu
        · cases d with
          | zero => cases e
          | succ d =>
            dsimp only at e
            have hu : h' = h := hu
            subst hu
            by_cases hfit : (lay as).length ≤ nlo z
            case neg => rw [if_neg hfit] at e; cases e
            rw [if_pos hfit] at e
            cases hr : run n d z 0 (loc0 z as) [] h' with
            | none => rw [hr] at e; cases e
            | some w =>
              rw [hr] at e
              dsimp only at e
              split at e
              · exact up_tr (ih hr) (ih e)
              · cases e
def kC (n d y : Nat) : Nat → List MV → Nat → Nat → List MV → List MV → Hp → Option MR := fun z as q pc' ls' s' h' => match d with
  | 0 => none
  | d' + 1 => match (if (lay as).length ≤ nlo z then run n d' z 0 (loc0 z as) [] h' else none) with
    | none => none
    | some (v, h'') => if v.1 = q then run n (d' + 1) y pc' ls' (if q = 9 then s' else (q, v.2) :: s') h'' else none
theorem run_succ {n d y pc : Nat} {ls s : List MV} {h : Hp} {en : ME} (hc : cd y pc = some en) : run (n + 1) d y pc ls s h = exK (run n d y) (fun v h => some (v, h)) (kC n d y) en.1 en.2.2.2 pc (kil en.2.2.1 ls) s h := by
  rw [exK_fin]
  conv => lhs; unfold run
  rw [hc]
  dsimp only
  cases hs : stp en.1 en.2.2.2 pc (kil en.2.2.1 ls) s h with
  | none => rfl
  | some o => rcases o with ⟨pc', ls', s', h'⟩ | r | ⟨z, as, q, pc', ls', s', h'⟩ <;> rfl
/-! the locals: what is killed, and a method's entry -/
theorem lrel_set9 {g : GG} {n i : Nat} {ls : List MV} {lsR : Array Slot} (h : lrel g n ls lsR) : lrel g n (ls.set i (9, 0)) lsR := by
  have key : ∀ (j : Nat) (v : MV), (ls.set i (9, 0))[j]? = some v → v.1 < 3 → ls[j]? = some v := by
    intro j v hj hv
    by_cases hji : i = j
    · subst hji
      rw [List.getElem?_set] at hj
      simp only [if_true] at hj
      split at hj
      · cases hj; exact absurd hv (by decide)
      · cases hj
    · rw [List.getElem?_set_ne hji] at hj
      exact hj
  refine ⟨⟨h.1.1, h.1.2.1, fun q hq => ?_⟩, by rw [List.length_set]; exact h.2.1, fun j v hj hv => h.2.2 j v (key j v hj hv) hv⟩
  obtain ⟨v, h1, h2, h3⟩ := (pic_mem g).mp hq
  exact h.1.2.2 q ((pic_mem g).mpr ⟨v, key _ v h1 h2, h2, h3⟩)
theorem lrel_kil {g : GG} {n : Nat} {lsR : Array Slot} : ∀ (kl : List Nat) {ls : List MV}, lrel g n ls lsR → lrel g n (kil kl ls) lsR
  | [], _, h => h
  | i :: kl, _, h => lrel_kil kl (lrel_set9 h)
theorem lay_args (g : GG) : ∀ (as : List MV) (i0 j : Nat) (v : MV), (lay as)[j]? = some v → v.1 < 3 → (i0 + j, cv g v) ∈ lv_args i0 (as.map (cv g))
  | [], _, _, _, h, _ => by cases h
  | (t, x) :: as, i0, j, v, h, hv => by
    by_cases ht : t = 1
    · subst ht
      have h : ((1, x) :: (9, 0) :: lay as)[j]? = some v := h
      have hcat : (cv g (1, x)).category = 2 := cv_cat g rfl
      show _ ∈ (i0, cv g (1, x)) :: lv_args (if (cv g (1, x)).category = 2 then i0 + 2 else i0 + 1) (as.map (cv g))
      rw [if_pos hcat]
      rcases j with _ | _ | j
      · cases h; exact List.mem_cons_self
      · cases h; exact absurd hv (by decide)
      · have := lay_args g as (i0 + 2) j v h hv
        rw [show i0 + (j + 2) = i0 + 2 + j by omega]
        exact List.mem_cons_of_mem _ this
    · have hl : lay ((t, x) :: as) = (t, x) :: lay as := by
        rcases t with _ | _ | t
        · rfl
        · exact absurd rfl ht
        · rfl
      rw [hl] at h
      have hcat : ¬ (cv g (t, x)).category = 2 := by rw [cv_cat1 g (show ¬ (t, x).1 = 1 from ht)]; decide
      show _ ∈ (i0, cv g (t, x)) :: lv_args (if (cv g (t, x)).category = 2 then i0 + 2 else i0 + 1) (as.map (cv g))
      rw [if_neg hcat]
      rcases j with _ | j
      · cases h; exact List.mem_cons_self
      · have := lay_args g as (i0 + 1) j v h hv
        rw [show i0 + (j + 1) = i0 + 1 + j by omega]
        exact List.mem_cons_of_mem _ this
theorem lay_len (g : GG) : ∀ as : List MV, (lg_sl (as.map (cv g))).length = (lay as).length
  | [] => rfl
  | (t, x) :: as => by
    have ih := lay_len g as
    unfold lg_sl at ih ⊢
    rw [List.map_cons, List.flatMap_cons, List.length_append, ih]
    by_cases ht : t = 1
    · subst ht
      rw [if_pos (cv_cat g rfl)]
      show 2 + _ = (lay as).length + 1 + 1
      omega
    · have hl : lay ((t, x) :: as) = (t, x) :: lay as := by
        rcases t with _ | _ | t
        · rfl
        · exact absurd rfl ht
        · rfl
      rw [hl, if_neg (by rw [cv_cat1 g (show ¬ (t, x).1 = 1 from ht)]; decide)]
      show 1 + _ = (lay as).length + 1
      omega
theorem lay_mem : ∀ (as : List MV) (v : MV), v ∈ lay as → v ∈ as ∨ v = (9, 0)
  | [], _, h => by cases h
  | (t, x) :: as, v, h => by
    by_cases ht : t = 1
    · subst ht
      have h : v ∈ (1, x) :: (9, 0) :: lay as := h
      rcases List.mem_cons.mp h with q | q
      · exact Or.inl (by rw [q]; exact List.mem_cons_self)
      · rcases List.mem_cons.mp q with q | q
        · exact Or.inr q
        · exact (lay_mem as v q).imp (List.mem_cons_of_mem _) id
    · have hl : lay ((t, x) :: as) = (t, x) :: lay as := by
        rcases t with _ | _ | t
        · rfl
        · exact absurd rfl ht
        · rfl
      rw [hl] at h
      rcases List.mem_cons.mp h with q | q
      · exact Or.inl (by rw [q]; exact List.mem_cons_self)
      · exact (lay_mem as v q).imp (List.mem_cons_of_mem _) id
theorem lrel_entry (g : GG) {z : Nat} {as : List MV} (hfit : (lay as).length ≤ nlo z) (hv : ∀ w ∈ as, vok w) :
    lrel g (nlo z) (loc0 z as) ((lg_sl (as.map (cv g)) ++ List.replicate (nlo z - (lg_sl (as.map (cv g))).length) Slot.unset).toArray) := by
  have hlen := lay_len g as
  have h1 := lv_entry (as.map (cv g)) (n := nlo z) (by rw [hlen]; exact hfit)
  have key : ∀ (j : Nat) (v : MV), (loc0 z as)[j]? = some v → v.1 < 3 → (lay as)[j]? = some v := by
    intro j v hj h3
    unfold loc0 at hj
    by_cases hjl : j < (lay as).length
    · rw [List.getElem?_append_left hjl] at hj; exact hj
    · rw [List.getElem?_append_right (by omega)] at hj
      have := List.mem_of_getElem? hj
      have := List.eq_of_mem_replicate this
      rw [this] at h3
      exact absurd h3 (by decide)
  refine ⟨⟨h1.1, h1.2.1, fun q hq => ?_⟩, by unfold loc0; rw [List.length_append, List.length_replicate]; omega, fun j v hj h3 => ?_⟩
  · obtain ⟨v, q1, q2, q3⟩ := (pic_mem g).mp hq
    have := lay_args g as 0 q.1 v (key _ v q1 q2) q2
    rw [Nat.zero_add, ← q3] at this
    exact h1.2.2 q this
  · rcases lay_mem as v (List.mem_of_getElem? (key j v hj h3)) with q | q
    · exact hv v q
    · rw [q] at h3; exact absurd h3 (by decide)
