/-! layer 2: the other makers -/
/-- the latest word on a cell -/
def lk : List (Int × Int × Int) → Int → Int → Option Int
  | [], _, _ => none
  | q :: r, a, j => if a = q.1 ∧ j = q.2.1 then some q.2.2 else lk r a j
theorem look_lk : ∀ (W : List (Int × Int × Int)) (a j d : Int), look W a j d = (lk W a j).getD d
  | [], _, _, _ => rfl
  | q :: r, a, j, d => by
    unfold look lk
    by_cases u : a = q.1 ∧ j = q.2.1
    · rw [if_pos u, if_pos u]; rfl
    · rw [if_neg u, if_neg u]; exact look_lk r a j d
section MC
variable {m : Int → Int → Int} {L : Nat} {t t' : List (Nat × Nat)} {W W' : List (Int × Int × Int)}
theorem ld_lk {a j v : Int} (e : lk W a j = some v) : ld (HH m L t W) a j = v := by
  show look W a j (m a j) = v
  rw [look_lk, e]; rfl
def T108 : List (Nat × Nat) := [(0, Int.toNat 10), (0, Int.toNat 10), (0, Int.toNat 10)]
def W108 (x : Int) (k : Nat) : List (Int × Int × Int) := [(x, 8, ((k + 2 + 1 : Nat) : Int)), (x, 7, ((k + 1 + 1 : Nat) : Int)), (x, 6, ((k + 1 : Nat) : Int)), (x, 1, -1)]
theorem K_108 {x : Int} (o : OB t x 24 9) (d : Nat) : C d 108 [(2, x)] (HH m L t W) = some ((9, 0), HH m L (t ++ T108) (W108 x t.length ++ W)) := by
  have o0 := fun W' => OB_W (m := m) (L := L) (W := W') o
  have o1 := fun t' W' => OB_W (m := m) (L := L) (W := W') (OB_app o t')
  simp only [ce_108, e108_0, e108_9, e108_25, OB_nz o, HH_alc, HH_st, HH_nxt, HH_mal, HH_okN, o0, o1, T108, W108, Int.reduceLE, Int.reduceLT, Int.reduceEq, Int.reduceNeg, and_self, and_true, true_and, if_true, if_false, or_true, true_or, or_false, false_or, reduceIte, List.cons_append, List.nil_append, List.append_assoc, List.length_append, List.length_cons, List.length_nil, Nat.zero_add, Nat.reduceAdd, Nat.add_assoc, List.length_replicate]
def T118 : List (Nat × Nat) := [(0, Int.toNat 5)]
def W118 (x : Int) (k : Nat) : List (Int × Int × Int) := [(x, 0, ((k + 1 : Nat) : Int))]
theorem K_118 {x : Int} (o : OB t x 20 4) (d : Nat) : C d 118 [(2, x)] (HH m L t W) = some ((9, 0), HH m L (t ++ T118) (W118 x t.length ++ W)) := by
  have o0 := fun W' => OB_W (m := m) (L := L) (W := W') o
  have o1 := fun t' W' => OB_W (m := m) (L := L) (W := W') (OB_app o t')
  simp only [ce_118, e118_0, e118_11, OB_nz o, HH_alc, HH_st, HH_nxt, HH_mal, HH_okN, o0, o1, T118, W118, Int.reduceLE, Int.reduceLT, Int.reduceEq, Int.reduceNeg, and_self, and_true, true_and, if_true, if_false, or_true, true_or, or_false, false_or, reduceIte, List.cons_append, List.nil_append, List.append_assoc, List.length_append, List.length_cons, List.length_nil, Nat.zero_add, Nat.reduceAdd, Nat.add_assoc, List.length_replicate]
def T120 : List (Nat × Nat) := (0, Int.toNat 10) :: ((8, Int.toNat 11) :: (List.replicate (Int.toNat 11) (0, Int.toNat 32) ++ [(0, Int.toNat 10)]))
def W120 (x : Int) (k : Nat) : List (Int × Int × Int) := (x, 2, ((k + 13 + 1 : Nat) : Int)) :: (x, 1, ((k + 1 + 1 : Nat) : Int)) :: (rowsF (Int.toNat 11) ((k + 1 + 1 : Nat) : Int) ++ [(x, 0, ((k + 1 : Nat) : Int))])
theorem K_120 {x : Int} (o : OB t x 23 4) (d : Nat) : C d 120 [(2, x)] (HH m L t W) = some ((9, 0), HH m L (t ++ T120) (W120 x t.length ++ W)) := by
  have o0 := fun W' => OB_W (m := m) (L := L) (W := W') o
  have o1 := fun t' W' => OB_W (m := m) (L := L) (W := W') (OB_app o t')
  have i11 : Int.toNat 11 = 11 := rfl
  simp only [ce_120, e120_0, e120_12, e120_24, OB_nz o, HH_alc, HH_st, HH_nxt, HH_mal, HH_okN, o0, o1, T120, W120, Int.reduceLE, Int.reduceLT, Int.reduceEq, Int.reduceNeg, and_self, and_true, true_and, if_true, if_false, or_true, true_or, or_false, false_or, reduceIte, List.cons_append, List.nil_append, List.append_assoc, List.length_append, List.length_cons, List.length_nil, Nat.zero_add, Nat.reduceAdd, Nat.add_assoc, List.length_replicate, i11]
def T125 : List (Nat × Nat) := [(0, Int.toNat 24), (0, Int.toNat 24)]
def W125 (x : Int) (k : Nat) : List (Int × Int × Int) := [(x, 3, -1), (x, 1, ((k + 1 + 1 : Nat) : Int)), (x, 0, ((k + 1 : Nat) : Int))]
theorem K_125 {x : Int} (o : OB t x 28 6) (d : Nat) : C d 125 [(2, x)] (HH m L t W) = some ((9, 0), HH m L (t ++ T125) (W125 x t.length ++ W)) := by
  have o0 := fun W' => OB_W (m := m) (L := L) (W := W') o
  have o1 := fun t' W' => OB_W (m := m) (L := L) (W := W') (OB_app o t')
  simp only [ce_125, e125_0, e125_12, e125_25, OB_nz o, HH_alc, HH_st, HH_nxt, HH_mal, HH_okN, o0, o1, T125, W125, Int.reduceLE, Int.reduceLT, Int.reduceEq, Int.reduceNeg, and_self, and_true, true_and, if_true, if_false, or_true, true_or, or_false, false_or, reduceIte, List.cons_append, List.nil_append, List.append_assoc, List.length_append, List.length_cons, List.length_nil, Nat.zero_add, Nat.reduceAdd, Nat.add_assoc, List.length_replicate]
theorem look_W84 {y b x : Int} (k : Nat) (h : ¬ x = y) (j d : Int) : look (W84 y b k ++ W) x j d = look W x j d := by
  unfold W84
  simp only [List.cons_append, List.nil_append, look, h, false_and, if_false]
def L131 : Nat → List (Nat × Nat) → List (Nat × Nat)
  | 0, t => t
  | n + 1, t => L131 n (t ++ [(29, 14)] ++ T84)
def G131 (p b : Int) : Nat → Nat → Int → List (Int × Int × Int) → List (Int × Int × Int)
  | 0, _, _, W => W
  | n + 1, k, i, W => G131 p b n (k + 8) (i + 1) ((p, i, ((k + 1 : Nat) : Int)) :: (W84 ((k + 1 : Nat) : Int) b (k + 1) ++ W))
theorem K_131l {x p b : Int} (hxp : ¬ x = p) (d : Nat) : ∀ (n : Nat) (t : List (Nat × Nat)) (W : List (Int × Int × Int)) (i : Int), OB t x 26 3 → OB t p 7 20 → ld (HH m L t W) x 0 = p → x < ((t.length + 1 : Nat) : Int) → 0 ≤ i → i + n = 20 → V (d + 1) 131 15 [(2, x), (2, b), (0, i)] [] (HH m L t W) = some ((9, 0), HH m L (L131 n t) (G131 p b n t.length i W)) := by
  intro n
  induction n with
  | zero =>
    intro t W i ox op hp hx i0 hi
    rw [e131_15, if_neg (by omega), e131_41]
    rfl
  | succ n ih =>
    intro t W i ox op hp hx i0 hi
    have n1 : OB (t ++ [(29, 14)]) ((t.length + 1 : Nat) : Int) 29 14 := OB_new
    have k1 := K_84 (m := m) (L := L) (W := W) (b := b) n1 d
    have l1 : (t ++ [(29, 14)]).length = t.length + 1 := by rw [List.length_append]; rfl
    rw [l1] at k1
    have l2 : (t ++ [(29, 14)] ++ T84).length = t.length + 8 := by rw [List.length_append, l1]; rfl
    have op2 := OB_app (OB_app op [(29, 14)]) T84
    have ox2 := OB_app (OB_app ox [(29, 14)]) T84
    have n2 := OB_app n1 T84
    have e1 : V (d + 1) 131 15 [(2, x), (2, b), (0, i)] [] (HH m L t W) = V (d + 1) 131 15 [(2, x), (2, b), (0, i + 1)] [] (HH m L (t ++ [(29, 14)] ++ T84) ((p, i, ((t.length + 1 : Nat) : Int)) :: (W84 ((t.length + 1 : Nat) : Int) b (t.length + 1) ++ W))) := by
      rw [e131_15, if_pos (by omega), if_pos (OB_F ox), if_pos HH_okN, HH_nxt, if_neg (by omega), HH_alc, Cl_eq _ k1, hp, if_pos (OB_W op2), OB_L op2, if_pos (by omega), if_pos (OB_F n2), HH_st, e131_35, show w32 (i + 1) = i + 1 by unfold w32; omega]
    rw [e1]
    have := ih (t ++ [(29, 14)] ++ T84) ((p, i, ((t.length + 1 : Nat) : Int)) :: (W84 ((t.length + 1 : Nat) : Int) b (t.length + 1) ++ W)) (i + 1) ox2 op2 (by
      show look _ x 0 (m x 0) = p
      show (if x = p ∧ (0 : Int) = i then _ else look (W84 ((t.length + 1 : Nat) : Int) b (t.length + 1) ++ W) x 0 (m x 0)) = p
      rw [if_neg (fun u => hxp u.1), look_W84 _ (by omega)]
      exact hp) (by rw [l2]; omega) (by omega) (by omega)
    rw [this, l2]
    rfl
theorem K_131 {x b : Int} (o : OB t x 26 3) (hx : x < ((t.length + 1 : Nat) : Int)) (d : Nat) : C (d + 1) 131 [(2, x), (2, b)] (HH m L t W) = some ((9, 0), HH m L (L131 20 (t ++ [(7, Int.toNat 20)])) (G131 ((t.length + 1 : Nat) : Int) b 20 (t.length + 1) 0 ((x, 0, ((t.length + 1 : Nat) : Int)) :: W))) := by
  have o1 := OB_app o [(7, Int.toNat 20)]
  have n1 : OB (t ++ [(7, Int.toNat 20)]) ((t.length + 1 : Nat) : Int) 7 20 := OB_new
  have l1 : (t ++ [(7, Int.toNat 20)]).length = t.length + 1 := by rw [List.length_append]; rfl
  have k := K_131l (m := m) (L := L) (x := x) (p := ((t.length + 1 : Nat) : Int)) (b := b) (by omega) d 20 (t ++ [(7, Int.toNat 20)]) ((x, 0, ((t.length + 1 : Nat) : Int)) :: W) 0 o1 n1 (by
    show (if x = x ∧ (0 : Int) = 0 then _ else _) = _
    rw [if_pos ⟨rfl, rfl⟩]) (by rw [l1]; omega) (by decide) (by decide)
  rw [l1] at k
  rw [ce_131, e131_0, if_neg (by have := o.1; omega), if_pos HH_okN, if_pos (by decide), HH_alc, if_pos (OB_W o1), HH_nxt, HH_st, e131_13, k]
def T135a : List (Nat × Nat) := [(0, Int.toNat 700), (0, Int.toNat 14), (0, Int.toNat 10), (0, Int.toNat 10), (0, Int.toNat 10), (0, Int.toNat 10), (0, Int.toNat 10)]
def W135a (x : Int) (k : Nat) : List (Int × Int × Int) := [(x, 8, ((k + 6 + 1 : Nat) : Int)), (x, 7, ((k + 5 + 1 : Nat) : Int)), (x, 6, ((k + 4 + 1 : Nat) : Int)), (x, 5, ((k + 3 + 1 : Nat) : Int)), (x, 4, ((k + 2 + 1 : Nat) : Int)), (x, 3, ((k + 1 + 1 : Nat) : Int)), (x, 1, ((k + 1 : Nat) : Int))]
theorem K_135a {x : Int} (o : OB t x 31 73) (d : Nat) : C d 135 [(2, x)] (HH m L t W) = V d 135 61 [(2, x)] [] (HH m L (t ++ T135a) (W135a x t.length ++ W)) := by
  have o0 := fun W' => OB_W (m := m) (L := L) (W := W') o
  have o1 := fun t' W' => OB_W (m := m) (L := L) (W := W') (OB_app o t')
  simp only [ce_135, e135_0, e135_13, e135_29, e135_45, OB_nz o, HH_alc, HH_st, HH_nxt, HH_mal, HH_okN, o0, o1, T135a, W135a, Int.reduceLE, Int.reduceLT, Int.reduceEq, Int.reduceNeg, and_self, and_true, true_and, if_true, if_false, or_true, true_or, or_false, false_or, reduceIte, List.cons_append, List.nil_append, List.append_assoc, List.length_append, List.length_cons, List.length_nil, Nat.zero_add, Nat.reduceAdd, Nat.add_assoc, List.length_replicate]
def T135b : List (Nat × Nat) := [(0, Int.toNat 10), (0, Int.toNat 10), (0, Int.toNat 10)]
def W135b (x : Int) (k : Nat) : List (Int × Int × Int) := [(x, 11, ((k + 2 + 1 : Nat) : Int)), (((k + 2 + 1 : Nat) : Int), 9, -1), (((k + 2 + 1 : Nat) : Int), 8, -1), (((k + 2 + 1 : Nat) : Int), 7, -1), (((k + 2 + 1 : Nat) : Int), 6, -1), (((k + 2 + 1 : Nat) : Int), 5, -1), (((k + 2 + 1 : Nat) : Int), 4, -1), (((k + 2 + 1 : Nat) : Int), 3, -1), (((k + 2 + 1 : Nat) : Int), 2, -1), (((k + 2 + 1 : Nat) : Int), 1, -1), (((k + 2 + 1 : Nat) : Int), 0, -1), (x, 10, ((k + 1 + 1 : Nat) : Int)), (((k + 1 + 1 : Nat) : Int), 9, -1), (((k + 1 + 1 : Nat) : Int), 8, -1), (((k + 1 + 1 : Nat) : Int), 7, -1), (((k + 1 + 1 : Nat) : Int), 6, -1), (((k + 1 + 1 : Nat) : Int), 5, -1), (((k + 1 + 1 : Nat) : Int), 4, -1), (((k + 1 + 1 : Nat) : Int), 3, -1), (((k + 1 + 1 : Nat) : Int), 2, -1), (((k + 1 + 1 : Nat) : Int), 1, -1), (((k + 1 + 1 : Nat) : Int), 0, -1), (x, 9, ((k + 1 : Nat) : Int))]
theorem K_135b {x : Int} (o : OB t x 31 73) (d : Nat) : V d 135 61 [(2, x)] [] (HH m L t W) = V d 135 173 [(2, x)] [] (HH m L (t ++ T135b) (W135b x t.length ++ W)) := by
  have o0 := fun W' => OB_W (m := m) (L := L) (W := W') o
  have o1 := fun t' W' => OB_W (m := m) (L := L) (W := W') (OB_app o t')
  have p1 : OB (t ++ [(0, Int.toNat 10), (0, Int.toNat 10)]) ((t.length + 2 : Nat) : Int) 0 10 := OB_at (i := 1) rfl
  have p2 : OB (t ++ [(0, Int.toNat 10), (0, Int.toNat 10), (0, Int.toNat 10)]) ((t.length + 3 : Nat) : Int) 0 10 := OB_at (i := 2) rfl
  have a1 := fun W' => OB_W (m := m) (L := L) (W := W') p1
  have a2 := fun W' => OB_W (m := m) (L := L) (W := W') p2
  have b1 : ∀ W', len (HH m L (t ++ [(0, Int.toNat 10), (0, Int.toNat 10)]) W') ((t.length + 2 : Nat) : Int) = 10 := fun W' => OB_L p1
  have b2 : ∀ W', len (HH m L (t ++ [(0, Int.toNat 10), (0, Int.toNat 10), (0, Int.toNat 10)]) W') ((t.length + 3 : Nat) : Int) = 10 := fun W' => OB_L p2
  simp only [e135_61, e135_78, e135_94, e135_113, e135_121, e135_138, e135_155, OB_nz o, HH_alc, HH_st, HH_nxt, HH_mal, HH_okN, o0, o1, a1, a2, b1, b2, T135b, W135b, Int.reduceLE, Int.reduceLT, Int.reduceEq, Int.reduceNeg, and_self, and_true, true_and, if_true, if_false, or_true, true_or, or_false, false_or, reduceIte, List.cons_append, List.nil_append, List.append_assoc, List.length_append, List.length_cons, List.length_nil, Nat.zero_add, Nat.reduceAdd, Nat.add_assoc, List.length_replicate]
def T135c : List (Nat × Nat) := [(0, Int.toNat 20), (0, Int.toNat 20), (0, Int.toNat 20), (0, Int.toNat 6), (0, Int.toNat 6), (0, Int.toNat 6), (0, Int.toNat 24), (0, Int.toNat 6), (0, Int.toNat 6), (0, Int.toNat 128), (0, Int.toNat 128), (0, Int.toNat 23), (0, Int.toNat 23), (0, Int.toNat 23), (0, Int.toNat 23), (0, Int.toNat 23), (0, Int.toNat 115), (0, Int.toNat 230), (0, Int.toNat 230), (0, Int.toNat 230), (0, Int.toNat 23), (0, Int.toNat 920), (0, Int.toNat 920), (0, Int.toNat 300), (0, Int.toNat 300), (0, Int.toNat 300), (1, Int.toNat 7), (1, Int.toNat 64), (0, Int.toNat 10), (0, Int.toNat 10), (0, Int.toNat 24), (2, Int.toNat 24), (0, Int.toNat 24), (2, Int.toNat 24)]
def W135c (x : Int) (k : Nat) : List (Int × Int × Int) := [(x, 72, ((k + 33 + 1 : Nat) : Int)), (x, 71, ((k + 32 + 1 : Nat) : Int)), (x, 70, ((k + 31 + 1 : Nat) : Int)), (x, 69, ((k + 30 + 1 : Nat) : Int)), (x, 68, -1), (x, 65, ((k + 29 + 1 : Nat) : Int)), (x, 64, ((k + 28 + 1 : Nat) : Int)), (x, 56, ((k + 27 + 1 : Nat) : Int)), (x, 55, ((k + 26 + 1 : Nat) : Int)), (x, 54, -1), (x, 53, -1), (x, 50, ((k + 25 + 1 : Nat) : Int)), (x, 49, ((k + 24 + 1 : Nat) : Int)), (x, 48, ((k + 23 + 1 : Nat) : Int)), (x, 47, ((k + 22 + 1 : Nat) : Int)), (x, 46, ((k + 21 + 1 : Nat) : Int)), (x, 45, ((k + 20 + 1 : Nat) : Int)), (x, 44, ((k + 19 + 1 : Nat) : Int)), (x, 43, ((k + 18 + 1 : Nat) : Int)), (x, 42, ((k + 17 + 1 : Nat) : Int)), (x, 41, ((k + 16 + 1 : Nat) : Int)), (x, 40, ((k + 15 + 1 : Nat) : Int)), (x, 39, ((k + 14 + 1 : Nat) : Int)), (x, 38, ((k + 13 + 1 : Nat) : Int)), (x, 37, ((k + 12 + 1 : Nat) : Int)), (x, 36, ((k + 11 + 1 : Nat) : Int)), (x, 33, -1), (x, 22, ((k + 10 + 1 : Nat) : Int)), (x, 21, ((k + 9 + 1 : Nat) : Int)), (x, 20, ((k + 8 + 1 : Nat) : Int)), (x, 19, ((k + 7 + 1 : Nat) : Int)), (x, 18, ((k + 6 + 1 : Nat) : Int)), (x, 17, ((k + 5 + 1 : Nat) : Int)), (x, 16, ((k + 4 + 1 : Nat) : Int)), (x, 15, ((k + 3 + 1 : Nat) : Int)), (x, 14, ((k + 2 + 1 : Nat) : Int)), (x, 13, ((k + 1 + 1 : Nat) : Int)), (x, 12, ((k + 1 : Nat) : Int))]
theorem K_135c {x : Int} (o : OB t x 31 73) (d : Nat) : V d 135 173 [(2, x)] [] (HH m L t W) = V d 135 475 [(2, x)] [] (HH m L (t ++ T135c) (W135c x t.length ++ W)) := by
  have o0 := fun W' => OB_W (m := m) (L := L) (W := W') o
  have o1 := fun t' W' => OB_W (m := m) (L := L) (W := W') (OB_app o t')
  simp only [e135_173, e135_189, e135_205, e135_221, e135_237, e135_254, e135_268, e135_284, e135_300, e135_316, e135_334, e135_351, e135_369, e135_387, e135_401, e135_414, e135_430, e135_443, e135_459, OB_nz o, HH_alc, HH_st, HH_nxt, HH_mal, HH_okN, o0, o1, T135c, W135c, Int.reduceLE, Int.reduceLT, Int.reduceEq, Int.reduceNeg, and_self, and_true, true_and, if_true, if_false, or_true, true_or, or_false, false_or, reduceIte, List.cons_append, List.nil_append, List.append_assoc, List.length_append, List.length_cons, List.length_nil, Nat.zero_add, Nat.reduceAdd, Nat.add_assoc, List.length_replicate]
end MC
