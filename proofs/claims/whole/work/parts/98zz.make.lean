/-! layer 2: what is made ahead of the loop -/
def look : List (Int × Int × Int) → Int → Int → Int → Int
  | [], _, _, d => d
  | q :: r, a, j, d => if a = q.1 ∧ j = q.2.1 then q.2.2 else look r a j d
def HH (m : Int → Int → Int) (L : Nat) (t : List (Nat × Nat)) (W : List (Int × Int × Int)) : Hp := (fun a j => look W a j (m a j), (t, (L, 0)))
/-- rows of a field of fields -/
def rowsF : Nat → Int → List (Int × Int × Int)
  | 0, _ => []
  | k + 1, y => (y, (k : Int), y + 1 + (k : Int)) :: rowsF k y
section MK
variable {m : Int → Int → Int} {L : Nat} {t t' : List (Nat × Nat)} {W W' : List (Int × Int × Int)}
theorem HH_alc (k n : Nat) : alc (HH m L t W) k n = HH m L (t ++ [(k, n)]) W := rfl
theorem HH_st (a i v : Int) : st (HH m L t W) a i v = HH m L t ((a, i, v) :: W) := rfl
theorem HH_nxt : nxt (HH m L t W) = ((t.length + 1 : Nat) : Int) := rfl
theorem HH_okN : okN (HH m L t W) = true := rfl
theorem HH_nz : (((t.length + 1 : Nat) : Int) = 0) = False := eq_false (by omega)
theorem look_rows (y : Int) (a j d : Int) : ∀ n : Nat, look (rowsF n y ++ W) a j d = if a = y ∧ 0 ≤ j ∧ j < (n : Int) then y + 1 + j else look W a j d
  | 0 => by rw [if_neg (by omega)]; rfl
  | n + 1 => by
    show (if a = y ∧ j = (n : Int) then y + 1 + (n : Int) else look (rowsF n y ++ W) a j d) = _
    rw [look_rows y a j d n]
    by_cases q : a = y ∧ j = (n : Int)
    · rw [if_pos q, if_pos (by omega), q.2]
    · rw [if_neg q]
      by_cases q2 : a = y ∧ 0 ≤ j ∧ j < (n : Int)
      · rw [if_pos q2, if_pos (by omega)]
      · rw [if_neg q2, if_neg (by omega)]
theorem HH_mal (n k : Nat) : mal (HH m L t W) n k = HH m L (t ++ (8, n) :: List.replicate n (0, k)) (rowsF n ((t.length + 1 : Nat) : Int) ++ W) := by
  refine Prod.ext (funext fun a => funext fun j => ?_) rfl
  show (if a = ((t.length + 1 : Nat) : Int) ∧ 0 ≤ j ∧ j < (n : Int) then ((t.length + 1 : Nat) : Int) + 1 + j else look W a j (m a j)) = look (rowsF n ((t.length + 1 : Nat) : Int) ++ W) a j (m a j)
  rw [look_rows]
theorem ok_new {c n : Nat} : okW (HH m L (t ++ (c, n) :: t') W) ((t.length + 1 : Nat) : Int) c = true ∧ okF (HH m L (t ++ (c, n) :: t') W) ((t.length + 1 : Nat) : Int) c = true ∧ len (HH m L (t ++ (c, n) :: t') W) ((t.length + 1 : Nat) : Int) = (n : Int) := by
  have e : shp (HH m L (t ++ (c, n) :: t') W) ((t.length + 1 : Nat) : Int) = some (c, n) := by
    unfold shp
    rw [if_pos (by omega)]
    show (t ++ (c, n) :: t')[(((t.length + 1 : Nat) : Int) - 1).toNat]? = some (c, n)
    rw [show (((t.length + 1 : Nat) : Int) - 1).toNat = t.length by omega, List.getElem?_append_right (Nat.le_refl _), Nat.sub_self]
    rfl
  refine ⟨?_, ?_, ?_⟩
  · unfold okW okF; rw [e, decide_eq_true (by omega)]; simp
  · unfold okF; rw [e]; simp
  · unfold len; rw [e]; rfl
/-- an object that is there -/
def OB (t : List (Nat × Nat)) (x : Int) (c n : Nat) : Prop := 0 < x ∧ t[(x - 1).toNat]? = some (c, n)
theorem OB_app {x : Int} {c n : Nat} (o : OB t x c n) (t' : List (Nat × Nat)) : OB (t ++ t') x c n := by
  refine ⟨o.1, ?_⟩
  have h := (List.getElem?_eq_some_iff.mp o.2).1
  rw [List.getElem?_append_left h]; exact o.2
theorem OB_new {c n : Nat} : OB (t ++ (c, n) :: t') ((t.length + 1 : Nat) : Int) c n := by
  refine ⟨by omega, ?_⟩
  rw [show (((t.length + 1 : Nat) : Int) - 1).toNat = t.length by omega, List.getElem?_append_right (Nat.le_refl _), Nat.sub_self]
  rfl
theorem OB_shp {x : Int} {c n : Nat} (o : OB t x c n) : shp (HH m L t W) x = some (c, n) := by
  unfold shp; rw [if_pos o.1]; exact o.2
theorem OB_W {x : Int} {c n : Nat} (o : OB t x c n) : okW (HH m L t W) x c = true := by
  unfold okW okF; rw [OB_shp o, decide_eq_true o.1]; simp
theorem OB_F {x : Int} {c n : Nat} (o : OB t x c n) : okF (HH m L t W) x c = true := by
  unfold okF; rw [OB_shp o]; simp
theorem OB_L {x : Int} {c n : Nat} (o : OB t x c n) : len (HH m L t W) x = (n : Int) := by
  unfold len; rw [OB_shp o]; rfl
theorem OB_nz {x : Int} {c n : Nat} (o : OB t x c n) : (x = 0) = False := eq_false (by have := o.1; omega)
def T56 : List (Nat × Nat) := [(3, Int.toNat 0)]
def W56 (x : Int) (k : Nat) : List (Int × Int × Int) := [(x, 3, -1), (x, 0, ((k + 1 : Nat) : Int))]
theorem K_56 {x : Int} (o : OB t x 27 7) (d : Nat) : C d 56 [(2, x)] (HH m L t W) = some ((9, 0), HH m L (t ++ T56) (W56 x t.length ++ W)) := by
  have o1 := fun t' W' => OB_W (m := m) (L := L) (W := W') (OB_app o t')
  simp only [ce_56, e56_0, e56_11, OB_nz o, HH_alc, HH_st, HH_nxt, HH_okN, o1, Int.reduceLE, Int.reduceLT, Int.reduceEq, Int.reduceNeg, and_self, and_true, true_and, if_true, if_false, or_true, true_or, or_false, false_or, reduceIte, T56, W56, List.cons_append, List.nil_append]
def T80 : List (Nat × Nat) := [(5, Int.toNat 64), (0, Int.toNat 64), (1, Int.toNat 64)]
def W80 (x : Int) (k : Nat) : List (Int × Int × Int) := [(x, 2, ((k + 2 + 1 : Nat) : Int)), (x, 1, ((k + 1 + 1 : Nat) : Int)), (x, 0, ((k + 1 : Nat) : Int))]
theorem K_80 {x : Int} (o : OB t x 22 4) (d : Nat) : C d 80 [(2, x)] (HH m L t W) = some ((9, 0), HH m L (t ++ T80) (W80 x t.length ++ W)) := by
  have o1 := fun t' W' => OB_W (m := m) (L := L) (W := W') (OB_app o t')
  simp only [ce_80, e80_0, e80_13, e80_29, OB_nz o, HH_alc, HH_st, HH_nxt, HH_okN, o1, Int.reduceLE, Int.reduceLT, Int.reduceEq, Int.reduceNeg, and_self, and_true, true_and, if_true, if_false, or_true, true_or, or_false, false_or, reduceIte, T80, W80, List.cons_append, List.nil_append, List.append_assoc, List.length_append, List.length_cons, List.length_nil, Nat.zero_add, Nat.reduceAdd]
def T84 : List (Nat × Nat) := [(0, Int.toNat 5), (0, Int.toNat 10), (0, Int.toNat 10), (0, Int.toNat 10), (0, Int.toNat 40), (0, Int.toNat 40), (0, Int.toNat 7)]
def W84 (x b : Int) (k : Nat) : List (Int × Int × Int) := [(x, 0, b), (x, 13, ((k + 6 + 1 : Nat) : Int)), (x, 12, ((k + 5 + 1 : Nat) : Int)), (x, 11, ((k + 4 + 1 : Nat) : Int)), (x, 9, ((k + 3 + 1 : Nat) : Int)), (x, 8, ((k + 2 + 1 : Nat) : Int)), (x, 7, ((k + 1 + 1 : Nat) : Int)), (x, 6, ((k + 1 : Nat) : Int))]
theorem K_84 {x b : Int} (o : OB t x 29 14) (d : Nat) : C d 84 [(2, x), (2, b)] (HH m L t W) = some ((9, 0), HH m L (t ++ T84) (W84 x b t.length ++ W)) := by
  have o0 := fun W' => OB_W (m := m) (L := L) (W := W') o
  have o1 := fun t' W' => OB_W (m := m) (L := L) (W := W') (OB_app o t')
  simp only [ce_84, e84_0, e84_11, e84_27, e84_43, e84_59, OB_nz o, HH_alc, HH_st, HH_nxt, HH_okN, o0, o1, Int.reduceLE, Int.reduceLT, Int.reduceEq, Int.reduceNeg, and_self, and_true, true_and, if_true, if_false, or_true, true_or, or_false, false_or, reduceIte, T84, W84, List.cons_append, List.nil_append, List.append_assoc, List.length_append, List.length_cons, List.length_nil, Nat.zero_add, Nat.reduceAdd]
end MK
