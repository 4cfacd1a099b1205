/-! layer 2: nothing is written into what was there ahead of the law -/
def NG (h h' : Hp) : Prop := ∀ a j : Int, a ≤ 0 → h'.1 a j = h.1 a j
theorem NG_rf (h : Hp) : NG h h := fun _ _ _ => rfl
theorem NG_tr {h h1 h2 : Hp} (f : NG h h1) (g : NG h1 h2) : NG h h2 := fun a j e => (g a j e).trans (f a j e)
theorem NG_st {h : Hp} {a i v : Int} {c : Nat} (hw : okW h a c = true) : NG h (st h a i v) := fun b j e => by
  have : 0 < a := by
    unfold okW at hw
    rw [Bool.and_eq_true, decide_eq_true_eq] at hw
    exact hw.1
  exact if_neg (by omega)
theorem NG_cpy {h : Hp} {s sp t tp n : Int} {c : Nat} (hw : okW h t c = true) : NG h (cpy h s sp t tp n) := fun b j e => by
  have : 0 < t := by
    unfold okW at hw
    rw [Bool.and_eq_true, decide_eq_true_eq] at hw
    exact hw.1
  exact if_neg (by omega)
theorem NG_mal (h : Hp) (n m : Nat) : NG h (mal h n m) := fun b j e => by
  have : 0 < nxt h := by unfold nxt; omega
  exact if_neg (by omega)
theorem NG_alc (h : Hp) (n m : Nat) : NG h (alc h n m) := fun _ _ _ => rfl
theorem NG_thr (h : Hp) : NG h (thr h) := fun _ _ _ => rfl
def NGo (h : Hp) : OC → Prop
  | .inl (_, _, _, h') => NG h h'
  | .inr (.inl (_, h')) => NG h h'
  | .inr (.inr (_, _, _, _, _, _, h')) => NG h h'
theorem swk_some {R : Type} {K : Int → Option R} {d x : Int} {r : R} : ∀ l : List Int, swk K d x l = some r → ∃ t, K t = some r
  | [], e => ⟨d, e⟩
  | [_], e => ⟨d, e⟩
  | k :: t :: l, e => by
    unfold swk at e
    split at e
    · exact ⟨t, e⟩
    · exact swk_some l e
set_option maxHeartbeats 4000000 in
theorem stp_ng {ins : Instr} {ax : List Int} {pc : Nat} {ls s : List MV} {h : Hp} {o : OC} (e : stp ins ax pc ls s h = some o) : NGo h o := by
  unfold stp at e
  cases ins <;> dsimp only [exK] at e <;> (repeat' split at e) <;> first
    | (cases e; exact NG_rf h)
    | (cases e; exact NG_st (by assumption))
    | (cases e; exact NG_alc _ _ _)
    | (cases e; exact NG_mal _ _ _)
    | (cases e; exact NG_thr _)
    | (cases e; exact NG_cpy (by assumption))
    | (cases e; done)
    | (obtain ⟨t, e⟩ := swk_some _ e; cases e; exact NG_rf h)
theorem run_ng : ∀ (n d y pc : Nat) (ls s : List MV) (h : Hp) (r : MR), run n d y pc ls s h = some r → NG h r.2 := by
  intro n
  induction n with
  | zero => intro d y pc ls s h r e; cases e
  | succ n ih =>
    intro d y pc ls s h r e
    unfold run at e
    cases hc : cd y pc with
    | none => rw [hc] at e; cases e
    | some en =>
      rw [hc] at e
      dsimp only at e
      cases hs : stp en.1 en.2.2.2 pc (kil en.2.2.1 ls) s h with
      | none => rw [hs] at e; cases e
      | some o =>
        rw [hs] at e
        have ng := stp_ng hs
        rcases o with ⟨pc', ls', s', h'⟩ | ⟨v, h'⟩ | ⟨z, as, q, pc', ls', s', h'⟩
        · exact NG_tr ng (ih _ _ _ _ _ _ _ e)
        · cases e; exact ng
        · dsimp only at e
          cases d with
          | zero => cases e
          | succ d =>
            dsimp only at e
            cases hr : (if (lay as).length ≤ nlo z then run n d z 0 (loc0 z as) [] h' else none) with
            | none => rw [hr] at e; cases e
            | some w =>
              obtain ⟨v, h''⟩ := w
              rw [hr] at e
              dsimp only at e
              have g1 : NG h' h'' := by
                split at hr
                · exact ih _ _ _ _ _ _ _ hr
                · cases hr
              split at e
              · exact NG_tr ng (NG_tr g1 (ih _ _ _ _ _ _ _ e))
              · cases e
theorem C_ng {d y : Nat} {as : List MV} {h : Hp} {r : MR} (e : C d y as h = some r) : NG h r.2 := by
  obtain ⟨-, e0⟩ := C_fit e
  obtain ⟨n, hn⟩ := V_iff.mp e0
  exact run_ng n d y 0 _ [] h r hn
