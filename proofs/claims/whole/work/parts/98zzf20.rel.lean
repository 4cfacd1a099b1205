/-! what the heap holds of the small machine's state -/
abbrev GG := Nat × (Int → Nat) × (Int → Int → Int) × Nat × va_G × (Nat → ClassId) × Option Nat
def gN (g : GG) : Nat := g.1
def gca (g : GG) : Int → Nat := g.2.1
def gcm (g : GG) : Int → Int → Int := g.2.2.1
def gL (g : GG) : Nat := g.2.2.2.1
def gD (g : GG) : va_G := g.2.2.2.2.1
def gTY (g : GG) : Nat → ClassId := g.2.2.2.2.2.1
def gfm (g : GG) : Option Nat := g.2.2.2.2.2.2
def gA (g : GG) : Nat → Prop := fun q => gN g ≤ q
def rfo (g : GG) (x : Int) : Option Nat := if x = 0 then none else if 0 < x then some (gN g + (x - 1).toNat) else some (gca g x)
def fval (g : GG) (t : Nat) (x : Int) : Value := match t with
  | 0 => .int (i32 x)
  | 1 => .long (i64 x)
  | 8 => va_rf (gfm g)
  | _ => va_rf (rfo g x)
def cv (g : GG) (v : MV) : Value := fval g v.1 v.2
def tyK (k : Nat) : FieldType := match k with
  | 0 => .int | 1 => .long | 2 => .boolean | 3 => .char | 4 => .byte
  | 5 => .object "PaidFaces$Token" | 6 => .object "PaidFaces$Law" | 7 => .object "PaidFaces$State" | _ => .array .int
def TYS (g : GG) : List (ClassId × FieldType) := (List.range 9).map (fun k => (gTY g k, tyK k))
theorem TYS_at (g : GG) {k : Nat} (h : k < 9) : (TYS g)[k]? = some (gTY g k, tyK k) := by
  unfold TYS
  rw [List.getElem?_map, List.getElem?_range h]; rfl
def cont (g : GG) (k : Nat) (f : Int → Int) : (Nat → Int32) ⊕ (Nat → Int64) ⊕ (Nat → UInt32) ⊕ (Nat → UInt64) ⊕ (Nat → Option Nat) :=
  if k = 1 then .inr (.inl (fun j => i64 (f (j : Int)))) else if 5 ≤ k then .inr (.inr (.inr (.inr (fun j => rfo g (f (j : Int)))))) else .inl (fun j => i32 (f (j : Int)))
def fds (k j : Nat) : String := (fI k j).2.2.1
def ent (g : GG) (sh : Nat × Nat) (f : Int → Int) : va_E :=
  if sh.1 < 20 then .inl (gTY g sh.1, sh.2, cont g sh.1 f) else .inr (sh.1 - 20, (List.range sh.2).map (fun j => fval g (dtg (fds sh.1 j)) (f (j : Int))))
def wl (g : GG) (h : Hp) : va_W := (List.range h.2.1.length).map (fun i => (gN g + i, ent g (h.2.1.getD i (0, 0)) (h.1 ((i : Int) + 1))))
def rok (sh : Nat × Nat) (j : Int) (x : Int) : Prop :=
  (sh.1 = 0 ∨ sh.1 = 2 ∨ sh.1 = 3 ∨ sh.1 = 4 → InR x) ∧ (sh.1 = 1 → InL x) ∧ (sh.1 = 2 → x = 0 ∨ x = 1) ∧ (sh.1 = 3 → 0 ≤ x ∧ x < 65536) ∧
  (20 ≤ sh.1 → (dtg (fds sh.1 j.toNat) = 0 → InR x) ∧ (dtg (fds sh.1 j.toNat) = 1 → InL x) ∧ (fds sh.1 j.toNat = "Z" → x = 0 ∨ x = 1))
def shok (sh : Nat × Nat) : Prop := (sh.1 < 9 ∧ sh.2 ≤ 100000) ∨ (20 ≤ sh.1 ∧ sh.1 < 32 ∧ sh.2 = nfl sh.1)
def RSl (g : GG) (h : Hp) (H : Heap) : Prop :=
  va_P (gD g) CL (wl g h) H ∧ (h.2.2.2 = 0 → H.size = gN g + h.2.1.length) ∧ gN g + h.2.1.length ≤ H.size ∧ (∀ sh ∈ h.2.1, shok sh) ∧
  (∀ (i : Nat) (sh : Nat × Nat), h.2.1[i]? = some sh → ∀ j : Int, 0 ≤ j → rok sh j (h.1 ((i : Int) + 1) j)) ∧ (∀ (a j : Int), (h.2.1.length : Int) < a → h.1 a j = 0) ∧ (∀ a : Int, a < 0 → h.1 a = gcm g a) ∧ h.2.2.1 = gL g
theorem wl_len (g : GG) (h : Hp) : (wl g h).length = h.2.1.length := by simp [wl]
theorem wl_at (g : GG) {h : Hp} {i : Nat} {sh : Nat × Nat} (hs : h.2.1[i]? = some sh) : (wl g h)[i]? = some (gN g + i, ent g sh (h.1 ((i : Int) + 1))) := by
  have hl := (List.getElem?_eq_some_iff.mp hs).1
  unfold wl
  rw [List.getElem?_map, List.getElem?_range hl]
  simp only [Option.map_some, List.getD_eq_getElem?_getD, hs, Option.getD_some]
theorem wl_D (g : GG) (h : Hp) : va_D (gA g) (wl g h) := by
  have key : ∀ (k : Nat) (q : Nat × va_E), (wl g h)[k]? = some q → q.1 = gN g + k := by
    intro k q hk
    unfold wl at hk
    rw [List.getElem?_map] at hk
    by_cases hl : k < h.2.1.length
    · rw [List.getElem?_range hl] at hk
      cases hk; rfl
    · rw [List.getElem?_eq_none (by simpa using hl)] at hk
      cases hk
  refine ⟨fun i j p q hi hj e => ?_, fun k q hk => ?_⟩
  · have h1 := key i p hi
    have h2 := key j q hj
    omega
  · rw [key k q hk]; unfold gA; omega
/-- the object behind a number above 0 -/
theorem shp_pos {h : Hp} {a : Int} {sh : Nat × Nat} (ha : 0 < a) (hs : shp h a = some sh) : h.2.1[(a - 1).toNat]? = some sh ∧ (((a - 1).toNat : Nat) : Int) + 1 = a := by
  unfold shp at hs
  rw [if_pos ha] at hs
  exact ⟨hs, by omega⟩
theorem rfo_pos (g : GG) {a : Int} (ha : 0 < a) : rfo g a = some (gN g + (a - 1).toNat) := by
  unfold rfo; rw [if_neg (by omega), if_pos ha]
theorem rfo_neg (g : GG) {a : Int} (ha : a < 0) : rfo g a = some (gca g a) := by
  unfold rfo; rw [if_neg (by omega), if_neg (by omega)]
theorem okF_sh {h : Hp} {a : Int} {k : Nat} (e : okF h a k = true) : ∃ n, shp h a = some (k, n) ∧ len h a = n ∧ a ≠ 0 := by
  unfold okF at e
  cases hs : shp h a with
  | none => rw [hs] at e; cases e
  | some sh =>
    rw [hs] at e
    obtain ⟨k', n⟩ := sh
    have : k' = k := by simpa using e
    subst this
    refine ⟨n, rfl, ?_, fun z => ?_⟩
    · unfold len; rw [hs]; rfl
    · subst z; unfold shp at hs; simp at hs
theorem okW_sh {h : Hp} {a : Int} {k : Nat} (e : okW h a k = true) : 0 < a ∧ okF h a k = true := by
  unfold okW at e
  simpa using e
/-- a store into the world's list -/
theorem wl_st (g : GG) {h : Hp} {a i v : Int} {sh : Nat × Nat} (ha : 0 < a) (hs : shp h a = some sh) :
    wl g (st h a i v) = (wl g h).set (a - 1).toNat (gN g + (a - 1).toNat, ent g sh (fun j => if j = i then v else h.1 a j)) := by
  obtain ⟨h1, h2⟩ := shp_pos ha hs
  have hl := (List.getElem?_eq_some_iff.mp h1).1
  apply List.ext_getElem?
  intro k
  by_cases hk : k < h.2.1.length
  · obtain ⟨sk, hsk⟩ : ∃ sk, h.2.1[k]? = some sk := ⟨_, List.getElem?_eq_getElem hk⟩
    rw [wl_at g (show (st h a i v).2.1[k]? = some sk from hsk)]
    by_cases hka : k = (a - 1).toNat
    · subst hka
      rw [List.getElem?_set_self (by rw [wl_len]; exact hl)]
      rw [h1] at hsk; cases hsk
      congr 3
      funext j
      show (if ((((a - 1).toNat : Nat) : Int) + 1) = a ∧ j = i then v else h.1 ((((a - 1).toNat : Nat) : Int) + 1) j) = _
      rw [h2]; simp
    · rw [List.getElem?_set_ne (Ne.symm hka), wl_at g hsk]
      congr 3
      funext j
      show (if ((k : Int) + 1) = a ∧ j = i then v else h.1 ((k : Int) + 1) j) = _
      rw [if_neg (by omega)]
  · rw [List.getElem?_eq_none (by rw [wl_len]; exact Nat.not_lt.mp hk), List.getElem?_eq_none (by rw [List.length_set, wl_len]; exact Nat.not_lt.mp hk)]
/-- the relation behind a store -/
theorem RS_st (g : GG) {h : Hp} {a i v : Int} {sh : Nat × Nat} {H H1 : Heap} (hR : RSl g h H) (ha : 0 < a) (hs : shp h a = some sh) (hi : 0 ≤ i) (hv : rok sh i v) (hz : H1.size = H.size)
    (hP : va_P (gD g) CL ((wl g h).set (a - 1).toNat (gN g + (a - 1).toNat, ent g sh (fun j => if j = i then v else h.1 a j))) H1) : RSl g (st h a i v) H1 := by
  obtain ⟨r1, r2, r3, r4, r5, r6, r7, r8⟩ := hR
  obtain ⟨h1, h2⟩ := shp_pos ha hs
  have hl := (List.getElem?_eq_some_iff.mp h1).1
  refine ⟨by rw [wl_st g ha hs]; exact hP, fun z => by rw [hz]; exact r2 z, by rw [hz]; exact r3, r4, ?_, ?_, ?_, r8⟩
  · intro k sk hk j hj
    show rok sk j (if ((k : Int) + 1) = a ∧ j = i then v else h.1 ((k : Int) + 1) j)
    split
    · rename_i q
      obtain ⟨q1, q2⟩ := q
      have : k = (a - 1).toNat := by omega
      subst this
      have hk : h.2.1[(a - 1).toNat]? = some sk := hk
      rw [h1] at hk; cases hk
      rw [q2]; exact hv
    · exact r5 k sk hk j hj
  · intro b j hb
    show (if b = a ∧ j = i then v else h.1 b j) = 0
    have hb : (h.2.1.length : Int) < b := hb
    rw [if_neg (by omega)]
    exact r6 b j hb
  · intro b hb
    funext j
    show (if b = a ∧ j = i then v else h.1 b j) = _
    rw [if_neg (by omega)]
    rw [r7 b hb]
def vok (v : MV) : Prop := (v.1 = 0 → InR v.2) ∧ (v.1 = 1 → InL v.2) ∧ (v.1 = 0 ∨ v.1 = 1 ∨ v.1 = 2 ∨ v.1 = 8)
def pic (g : GG) (ls : List MV) : List (Nat × Value) := (List.range ls.length).filterMap (fun i => match ls[i]? with | some v => if v.1 < 3 then some (i, cv g v) else none | none => none)
theorem pic_mem (g : GG) {ls : List MV} {q : Nat × Value} : q ∈ pic g ls ↔ ∃ v, ls[q.1]? = some v ∧ v.1 < 3 ∧ q.2 = cv g v := by
  unfold pic
  rw [List.mem_filterMap]
  constructor
  · rintro ⟨i, hi, e⟩
    cases hv : ls[i]? with
    | none => rw [hv] at e; cases e
    | some v =>
      rw [hv] at e
      dsimp only at e
      split at e
      · cases e; exact ⟨v, hv, by assumption, rfl⟩
      · cases e
  · rintro ⟨v, h1, h2, h3⟩
    refine ⟨q.1, List.mem_range.mpr (List.getElem?_eq_some_iff.mp h1).1, ?_⟩
    rw [h1]
    dsimp only
    rw [if_pos h2, ← h3]
def lrel (g : GG) (n : Nat) (ls : List MV) (lsR : Array Slot) : Prop := lv_has lsR n (pic g ls) ∧ ls.length = n ∧ ∀ (i : Nat) (v : MV), ls[i]? = some v → v.1 < 3 → vok v
