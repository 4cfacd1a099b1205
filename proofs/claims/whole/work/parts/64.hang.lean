/-! layer 2: the gallery -/
abbrev Cn := Int × Int × Int
def tk (c A : Cn) : Cn := (or32 A.1 (shl32 1 c.1), w32 (A.2.1 + c.2.1), w32 (A.2.2 + c.2.2))
def wg : List Cn → Nat → Cn → Cn
  | [], _, A => A
  | c :: cs, m, A => wg cs m (if m / 2 ^ cs.length % 2 = 1 then tk c A else A)
def allS : List Cn → Cn → List Cn
  | [], A => [A]
  | c :: cs, A => allS cs (tk c A) ++ allS cs A
def btr (free : Int) (o : Option Cn) (A : Cn) : Option Cn := if free < A.2.2 then o else match o with
  | none => some A
  | some B => if B.2.1 < A.2.1 ∨ (A.2.1 = B.2.1 ∧ A.2.2 < B.2.2) then some A else some B
def dn (f : Nat → Cn) (free : Int) : Nat → Option Cn → Option Cn
  | 0, o => o
  | n + 1, o => dn f free n (btr free o (f n))
theorem dn_add (f : Nat → Cn) (free : Int) (a : Nat) : ∀ (b : Nat) (o : Option Cn), dn f free (a + b) o = dn f free a (dn (fun r => f (a + r)) free b o)
  | 0, _ => rfl
  | b + 1, o => dn_add f free a b (btr free o (f (a + b)))
theorem dn_ext {f g : Nat → Cn} {free : Int} : ∀ (n : Nat) (o : Option Cn), (∀ r, r < n → f r = g r) → dn f free n o = dn g free n o
  | 0, _, _ => rfl
  | n + 1, o, e => by
    show dn f free n (btr free o (f n)) = dn g free n (btr free o (g n))
    rw [e n (by omega)]
    exact dn_ext n _ (fun r hr => e r (by omega))
theorem wg_hi : ∀ (cs : List Cn) (k r : Nat) (A : Cn), cs.length ≤ k → wg cs (2 ^ k + r) A = wg cs r A
  | [], _, _, _, _ => rfl
  | c :: cs, k, r, A, h => by
    have h1 : cs.length < k := h
    have hb : (2 ^ k + r) / 2 ^ cs.length % 2 = r / 2 ^ cs.length % 2 := by
      rw [show 2 ^ k = 2 ^ cs.length * (2 ^ (k - cs.length - 1) * 2) by rw [← Nat.pow_succ, ← Nat.pow_add]; congr 1; omega, Nat.mul_add_div (Nat.pow_pos (by decide))]
      omega
    show wg cs (2 ^ k + r) _ = wg cs r _
    rw [hb]
    exact wg_hi cs k r _ (by omega)
theorem dn_all (free : Int) : ∀ (l : List Cn) (A : Cn) (o : Option Cn), dn (fun m => wg l m A) free (2 ^ l.length) o = (allS l A).foldl (btr free) o
  | [], _, _ => rfl
  | c :: cs, A, o => by
    show dn (fun m => wg (c :: cs) m A) free (2 ^ (cs.length + 1)) o = (allS cs (tk c A) ++ allS cs A).foldl (btr free) o
    have hp : 0 < 2 ^ cs.length := Nat.pow_pos (by decide)
    rw [List.foldl_append, ← dn_all free cs (tk c A) o, ← dn_all free cs A, Nat.pow_succ, Nat.mul_two, dn_add]
    have e1 : ∀ r, r < 2 ^ cs.length → wg (c :: cs) (2 ^ cs.length + r) A = wg cs r (tk c A) := fun r hr => by
      show wg cs _ (if _ then _ else _) = _
      have : (2 ^ cs.length + r) / 2 ^ cs.length = 1 := by
        rw [Nat.add_div_left _ hp, Nat.div_eq_of_lt hr]
      rw [this, if_pos (by decide)]
      exact wg_hi cs _ r _ (Nat.le_refl _)
    have e2 : ∀ r, r < 2 ^ cs.length → wg (c :: cs) r A = wg cs r A := fun r hr => by
      show wg cs _ (if _ then _ else _) = _
      rw [Nat.div_eq_of_lt hr, if_neg (by decide)]
    rw [dn_ext _ _ e1, dn_ext _ _ e2]
theorem bit_n {m i : Nat} (hi : i < 32) : (and32 (shr32 (m : Int) (i : Int)) 1 = 0) = ¬ (m / 2 ^ i % 2 = 1) := by
  rw [and32_1]
  unfold shr32
  have : ((i : Int) % 32).toNat = i := by omega
  rw [this]
  have e : (m : Int) / 2 ^ i = ((m / 2 ^ i : Nat) : Int) := by push_cast; rfl
  rw [e]
  apply propext
  omega
theorem wg_w : ∀ (cs : List Cn) (m : Nat) (A : Cn), (∀ c ∈ cs, 0 ≤ c.2.1 ∧ c.2.1 ≤ 999) → 0 ≤ A.2.1 → A.2.1 + 999 * cs.length ≤ 1000000 → 0 ≤ (wg cs m A).2.1
  | [], _, _, _, h, _ => h
  | c :: cs, m, A, hc, h0, h1 => by
    have q := hc c List.mem_cons_self
    have hl : ((c :: cs).length : Int) = cs.length + 1 := by rw [List.length_cons]; omega
    rw [hl] at h1
    have n0 : (0 : Int) ≤ cs.length := by omega
    have ew : w32 (A.2.1 + c.2.1) = A.2.1 + c.2.1 := by unfold w32; omega
    show 0 ≤ (wg cs m _).2.1
    refine wg_w cs m _ (fun x hx => hc x (List.mem_cons_of_mem _ hx)) ?_ ?_
    · split
      · show 0 ≤ w32 (A.2.1 + c.2.1); rw [ew]; omega
      · exact h0
    · split
      · show w32 (A.2.1 + c.2.1) + _ ≤ _; rw [ew]; omega
      · omega
/-- what the painter keeps of the best -/
def PO (h : Hp) : Option Cn → Prop
  | none => ld h 283 3 = -1
  | some B => ld h 283 3 = B.2.1 ∧ ld h 283 4 = B.2.2 ∧ ld h 283 5 = B.1 ∧ 0 ≤ B.2.1
def PA (h : Hp) (l : List Cn) : Prop := ∀ i : Nat, i < l.length → ld h 284 i = (l.getD i (0, 0, 0)).1 ∧ ld h 285 i = (l.getD i (0, 0, 0)).2.1 ∧ ld h 286 i = (l.getD i (0, 0, 0)).2.2
theorem PA_eq {h h' : Hp} {l : List Cn} (e : ∀ j, ld h' 284 j = ld h 284 j ∧ ld h' 285 j = ld h 285 j ∧ ld h' 286 j = ld h 286 j) (p : PA h l) : PA h' l := fun i hi => by
  obtain ⟨a, b, c⟩ := e i
  rw [a, b, c]; exact p i hi
