/-! layer 2: a book, a reader, rings are made -/
section MB
variable {m : Int → Int → Int} {L : Nat} {t t' : List (Nat × Nat)} {W W' : List (Int × Int × Int)}
theorem OB_at {l : List (Nat × Nat)} {i c n : Nat} (e : l[i]? = some (c, n)) : OB (t ++ l) ((t.length + i + 1 : Nat) : Int) c n := by
  refine ⟨by omega, ?_⟩
  rw [show (((t.length + i + 1 : Nat) : Int) - 1).toNat = t.length + i by omega, List.getElem?_append_right (by omega), show t.length + i - t.length = i by omega]
  exact e
def TA64 : List (Nat × Nat) := [(0, Int.toNat 5), (0, Int.toNat 5), (0, Int.toNat 5), (0, Int.toNat 5), (0, Int.toNat 5), (0, Int.toNat 5), (0, Int.toNat 5), (0, Int.toNat 5), (0, Int.toNat 10), (0, Int.toNat 10), (0, Int.toNat 10)] ++ ((8, Int.toNat 3) :: (List.replicate (Int.toNat 3) (0, Int.toNat 3) ++ [(2, Int.toNat 100), (6, Int.toNat 3), (22, 4)]))
def WA64 (x : Int) (k : Nat) : List (Int × Int × Int) := [(x, 18, ((k + 15 + 1 : Nat) : Int)), (x, 16, ((k + 11 + 1 : Nat) : Int))] ++ (rowsF (Int.toNat 3) ((k + 11 + 1 : Nat) : Int) ++ [(x, 14, ((k + 10 + 1 : Nat) : Int)), (x, 13, ((k + 9 + 1 : Nat) : Int)), (x, 12, ((k + 8 + 1 : Nat) : Int)), (x, 10, ((k + 7 + 1 : Nat) : Int)), (x, 9, ((k + 6 + 1 : Nat) : Int)), (x, 7, ((k + 5 + 1 : Nat) : Int)), (x, 6, ((k + 4 + 1 : Nat) : Int)), (x, 5, ((k + 3 + 1 : Nat) : Int)), (x, 3, ((k + 2 + 1 : Nat) : Int)), (x, 2, ((k + 1 + 1 : Nat) : Int)), (x, 1, ((k + 1 : Nat) : Int))])
theorem K_64a {x : Int} (o : OB t x 21 20) (d : Nat) : C d 64 [(2, x)] (HH m L t W) = V d 64 112 [(9, 0)] [(2, ((t.length + 17 + 1 : Nat) : Int)), (0, 0), (2, ((t.length + 16 + 1 : Nat) : Int)), (2, ((t.length + 16 + 1 : Nat) : Int)), (2, x)] (HH m L (t ++ TA64) (WA64 x t.length ++ W)) := by
  have o0 := fun W' => OB_W (m := m) (L := L) (W := W') o
  have o1 := fun t' W' => OB_W (m := m) (L := L) (W := W') (OB_app o t')
  have i3 : Int.toNat 3 = 3 := rfl
  simp only [ce_64, e64_0, e64_11, e64_25, e64_39, e64_53, e64_68, e64_84, e64_94, OB_nz o, HH_alc, HH_st, HH_nxt, HH_mal, HH_okN, o0, o1, Int.reduceLE, Int.reduceLT, Int.reduceEq, Int.reduceNeg, and_self, and_true, true_and, if_true, if_false, or_true, true_or, or_false, false_or, reduceIte, TA64, WA64, List.cons_append, List.nil_append, List.append_assoc, List.length_append, List.length_cons, List.length_nil, Nat.zero_add, Nat.reduceAdd, i3, List.length_replicate, Nat.add_assoc]
def T64 : List (Nat × Nat) := TA64 ++ (T80 ++ ((22, 4) :: (T80 ++ ((22, 4) :: T80))))
def W64 (x : Int) (k : Nat) : List (Int × Int × Int) := (x, 19, ((k + 16 + 1 : Nat) : Int)) :: (((k + 16 + 1 : Nat) : Int), 2, ((k + 25 + 1 : Nat) : Int)) :: (W80 ((k + 25 + 1 : Nat) : Int) (k + 26) ++ ((((k + 16 + 1 : Nat) : Int), 1, ((k + 21 + 1 : Nat) : Int)) :: (W80 ((k + 21 + 1 : Nat) : Int) (k + 22) ++ ((((k + 16 + 1 : Nat) : Int), 0, ((k + 17 + 1 : Nat) : Int)) :: (W80 ((k + 17 + 1 : Nat) : Int) (k + 18) ++ WA64 x k)))))
theorem K_64 {x : Int} (o : OB t x 21 20) (d : Nat) : C (d + 1) 64 [(2, x)] (HH m L t W) = some ((9, 0), HH m L (t ++ T64) (W64 x t.length ++ W)) := by
  have lA : (t ++ TA64).length = t.length + 18 := by rw [List.length_append]; rfl
  have oA : OB (t ++ TA64) x 21 20 := OB_app o _
  have o16 : OB (t ++ TA64) ((t.length + 16 + 1 : Nat) : Int) 6 3 := OB_at rfl
  have o17 : OB (t ++ TA64) ((t.length + 17 + 1 : Nat) : Int) 22 4 := OB_at rfl
  rw [K_64a o (d + 1)]
  generalize hk : t.length = k at *
  generalize ht : t ++ TA64 = t1 at *
  generalize hW : WA64 x k ++ W = W1 at *
  have k1 := K_80 (m := m) (L := L) (W := W1) o17 d
  rw [lA] at k1
  have l2 : (t1 ++ T80).length = k + 21 := by rw [List.length_append, lA]; rfl
  have o17b := OB_app o17 T80
  have o16b := OB_app o16 T80
  have oAb := OB_app oA T80
  generalize ht2 : t1 ++ T80 = t2 at *
  have n2 : OB (t2 ++ [(22, 4)]) ((t2.length + 1 : Nat) : Int) 22 4 := OB_new
  rw [l2] at n2
  have nz2 : (((k + 21 + 1 : Nat) : Int) = 0) = False := eq_false (by omega)
  have k2 := K_80 (m := m) (L := L) (W := (((k + 16 + 1 : Nat) : Int), 0, ((k + 17 + 1 : Nat) : Int)) :: (W80 ((k + 17 + 1 : Nat) : Int) (k + 18) ++ W1)) n2 d
  have l3 : (t2 ++ [(22, 4)]).length = k + 22 := by rw [List.length_append, l2]; rfl
  rw [l3] at k2
  have e1 : V (d + 1) 64 112 [(9, 0)] [(2, ((k + 17 + 1 : Nat) : Int)), (0, 0), (2, ((k + 16 + 1 : Nat) : Int)), (2, ((k + 16 + 1 : Nat) : Int)), (2, x)] (HH m L t1 W1) = V (d + 1) 64 126 [(9, 0)] [(2, ((k + 21 + 1 : Nat) : Int)), (0, 1), (2, ((k + 16 + 1 : Nat) : Int)), (2, ((k + 16 + 1 : Nat) : Int)), (2, x)] (HH m L (t2 ++ [(22, 4)] ++ T80) (W80 ((k + 21 + 1 : Nat) : Int) (k + 22) ++ ((((k + 16 + 1 : Nat) : Int), 0, ((k + 17 + 1 : Nat) : Int)) :: (W80 ((k + 17 + 1 : Nat) : Int) (k + 18) ++ W1)))) := by
    rw [e64_112, if_neg (by omega), Cl_eq _ k1, if_pos (OB_W o16b), OB_L o16b, if_pos (by decide), if_pos (OB_F o17b), HH_st, if_pos HH_okN, HH_nxt, l2, if_neg (by omega), HH_alc, Cl_eq _ k2]
  rw [e1]
  have n2b := OB_app n2 T80
  have o16c := OB_app (OB_app o16b [(22, 4)]) T80
  have oAc := OB_app (OB_app oAb [(22, 4)]) T80
  have l4 : (t2 ++ [(22, 4)] ++ T80).length = k + 25 := by rw [List.length_append, l3]; rfl
  generalize hW2 : W80 ((k + 21 + 1 : Nat) : Int) (k + 22) ++ ((((k + 16 + 1 : Nat) : Int), 0, ((k + 17 + 1 : Nat) : Int)) :: (W80 ((k + 17 + 1 : Nat) : Int) (k + 18) ++ W1)) = W2 at *
  generalize ht3 : t2 ++ [(22, 4)] ++ T80 = t3 at *
  have n3 : OB (t3 ++ [(22, 4)]) ((t3.length + 1 : Nat) : Int) 22 4 := OB_new
  rw [l4] at n3
  have k3 := K_80 (m := m) (L := L) (W := (((k + 16 + 1 : Nat) : Int), 1, ((k + 21 + 1 : Nat) : Int)) :: W2) n3 d
  have l5 : (t3 ++ [(22, 4)]).length = k + 26 := by rw [List.length_append, l4]; rfl
  rw [l5] at k3
  have n3b := OB_app n3 T80
  have o16d := OB_app (OB_app o16c [(22, 4)]) T80
  have oAd := OB_app (OB_app oAc [(22, 4)]) T80
  rw [e64_126, if_pos (OB_W o16c), OB_L o16c, if_pos (by decide), if_pos (OB_F n2b), HH_st, if_pos HH_okN, HH_nxt, l4, if_neg (by omega), HH_alc, Cl_eq _ k3, if_pos (OB_W o16d), OB_L o16d, if_pos (by decide), if_pos (OB_F n3b), HH_st, if_pos (OB_W oAd), HH_st, e64_140]
  unfold T64 W64
  subst hW2 hW ht3 ht2 ht
  simp only [List.cons_append, List.nil_append, List.append_assoc]
def T33 : List (Nat × Nat) := (27, 7) :: (T56 ++ ((21, 20) :: (T64 ++ [(5, Int.toNat 72)])))
def W33 (x : Int) (k : Nat) : List (Int × Int × Int) := (x, 8, -1) :: (x, 2, ((k + 32 + 1 : Nat) : Int)) :: (x, 1, ((k + 2 + 1 : Nat) : Int)) :: (W64 ((k + 2 + 1 : Nat) : Int) (k + 3) ++ ((x, 0, ((k + 1 : Nat) : Int)) :: W56 ((k + 1 : Nat) : Int) (k + 1)))
theorem K_33 {x : Int} (o : OB t x 25 9) (d : Nat) : C (d + 2) 33 [(2, x)] (HH m L t W) = some ((9, 0), HH m L (t ++ T33) (W33 x t.length ++ W)) := by
  generalize hk : t.length = k at *
  have n1 : OB (t ++ [(27, 7)]) ((t.length + 1 : Nat) : Int) 27 7 := OB_new
  have l1 : (t ++ [(27, 7)]).length = k + 1 := by rw [List.length_append, hk]; rfl
  rw [hk] at n1
  have k1 := K_56 (m := m) (L := L) (W := W) n1 (d + 1)
  rw [l1] at k1
  have o1 := OB_app (OB_app o [(27, 7)]) T56
  have l2 : (t ++ [(27, 7)] ++ T56).length = k + 2 := by rw [List.length_append, l1]; rfl
  have e1 : C (d + 2) 33 [(2, x)] (HH m L t W) = V (d + 2) 33 15 [(2, x)] [] (HH m L (t ++ [(27, 7)] ++ T56) ((x, 0, ((k + 1 : Nat) : Int)) :: (W56 ((k + 1 : Nat) : Int) (k + 1) ++ W))) := by
    rw [ce_33, e33_0, if_neg (by have := o.1; omega), if_pos HH_okN, HH_nxt, hk, if_neg (by omega), HH_alc, Cl_eq _ k1, if_pos (OB_W o1), HH_st]
  rw [e1]
  generalize ht1 : t ++ [(27, 7)] ++ T56 = t1 at *
  have n2 : OB (t1 ++ [(21, 20)]) ((t1.length + 1 : Nat) : Int) 21 20 := OB_new
  rw [l2] at n2
  have l3 : (t1 ++ [(21, 20)]).length = k + 3 := by rw [List.length_append, l2]; rfl
  have k2 := K_64 (m := m) (L := L) (W := (x, 0, ((k + 1 : Nat) : Int)) :: (W56 ((k + 1 : Nat) : Int) (k + 1) ++ W)) n2 d
  rw [l3] at k2
  have o2 := OB_app (OB_app o1 [(21, 20)]) T64
  have o3 := OB_app o2 [(5, Int.toNat 72)]
  have l4 : (t1 ++ [(21, 20)] ++ T64).length = k + 32 := by rw [List.length_append, l3]; rfl
  rw [e33_15, if_pos HH_okN, HH_nxt, l2, if_neg (by omega), HH_alc, Cl_eq _ k2, if_pos (OB_W o2), HH_st, e33_26, if_pos HH_okN, if_pos (by decide), HH_alc, HH_nxt, l4, if_pos (OB_W o3), HH_st, if_pos (OB_W o3), HH_st, e33_40]
  unfold T33 W33
  subst ht1
  simp only [List.cons_append, List.nil_append, List.append_assoc]
end MB
