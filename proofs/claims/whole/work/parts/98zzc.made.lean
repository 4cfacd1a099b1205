/-! layer 2: all is made -/
section MD
variable {m : Int → Int → Int} {L : Nat}
def tS0 : List (Nat × Nat) := [(30, 15)] ++ [(3, Int.toNat 700)]
def WS0 : List (Int × Int × Int) := [(1, 0, ((1 + 1 : Nat) : Int))]
theorem lS0 : tS0.length = 2 := by decide +kernel
theorem K1_0 (d : Nat) : C (d + 6) 1 [(2, 1)] (HH m L [(30, 15)] []) = V (d + 6) 1 13 [(2, 1)] [] (HH m L tS0 WS0) := by
  have ox : OB ([(30, 15)] ++ [(3, Int.toNat 700)]) 1 30 15 := ⟨by decide, by decide +kernel⟩
  rw [ce_1, e1_0, if_neg (by decide), if_pos HH_okN, if_pos (by decide), HH_alc, if_pos (OB_W ox), HH_nxt, HH_st]
  rfl
def tS1 : List (Nat × Nat) := (tS0 ++ [(25, 9)]) ++ T33
def WS1 : List (Int × Int × Int) := (1, 2, ((2 + 1 : Nat) : Int)) :: (W33 ((2 + 1 : Nat) : Int) 3 ++ WS0)
theorem K1_13 (d : Nat) : V (d + 6) 1 13 [(2, 1)] [] (HH m L tS0 WS0) = V (d + 6) 1 24 [(2, 1)] [] (HH m L tS1 WS1) := by
  have n1 : OB (tS0 ++ [(25, 9)]) ((tS0.length + 1 : Nat) : Int) 25 9 := OB_new
  rw [lS0] at n1
  have l1 : (tS0 ++ [(25, 9)]).length = 3 := by rw [List.length_append, lS0]; rfl
  have k := K_33 (m := m) (L := L) (W := WS0) n1 (d + 3)
  rw [l1] at k
  have ox : OB ((tS0 ++ [(25, 9)]) ++ T33) 1 30 15 := ⟨by decide, by decide +kernel⟩
  rw [e1_13, if_pos HH_okN, HH_nxt, lS0, if_neg (by decide), HH_alc, Cl_eq _ k, if_pos (OB_W ox), HH_st]
  rfl
theorem lS1 : tS1.length = 36 := by decide +kernel
def tS2 : List (Nat × Nat) := (tS1 ++ [(21, 20)]) ++ T64
def WS2 : List (Int × Int × Int) := (1, 3, ((36 + 1 : Nat) : Int)) :: (W64 ((36 + 1 : Nat) : Int) 37 ++ WS1)
theorem K1_24 (d : Nat) : V (d + 6) 1 24 [(2, 1)] [] (HH m L tS1 WS1) = V (d + 6) 1 35 [(2, 1)] [] (HH m L tS2 WS2) := by
  have n1 : OB (tS1 ++ [(21, 20)]) ((tS1.length + 1 : Nat) : Int) 21 20 := OB_new
  rw [lS1] at n1
  have l1 : (tS1 ++ [(21, 20)]).length = 37 := by rw [List.length_append, lS1]; rfl
  have k := K_64 (m := m) (L := L) (W := WS1) n1 (d + 4)
  rw [l1] at k
  have ox : OB ((tS1 ++ [(21, 20)]) ++ T64) 1 30 15 := ⟨by decide, by decide +kernel⟩
  rw [e1_24, if_pos HH_okN, HH_nxt, lS1, if_neg (by decide), HH_alc, Cl_eq _ k, if_pos (OB_W ox), HH_st]
  rfl
theorem lS2 : tS2.length = 66 := by decide +kernel
def tS3 : List (Nat × Nat) := (tS2 ++ [(21, 20)]) ++ T64
def WS3 : List (Int × Int × Int) := (1, 4, ((66 + 1 : Nat) : Int)) :: (W64 ((66 + 1 : Nat) : Int) 67 ++ WS2)
theorem K1_35 (d : Nat) : V (d + 6) 1 35 [(2, 1)] [] (HH m L tS2 WS2) = V (d + 6) 1 46 [(2, 1)] [] (HH m L tS3 WS3) := by
  have n1 : OB (tS2 ++ [(21, 20)]) ((tS2.length + 1 : Nat) : Int) 21 20 := OB_new
  rw [lS2] at n1
  have l1 : (tS2 ++ [(21, 20)]).length = 67 := by rw [List.length_append, lS2]; rfl
  have k := K_64 (m := m) (L := L) (W := WS2) n1 (d + 4)
  rw [l1] at k
  have ox : OB ((tS2 ++ [(21, 20)]) ++ T64) 1 30 15 := ⟨by decide, by decide +kernel⟩
  rw [e1_35, if_pos HH_okN, HH_nxt, lS2, if_neg (by decide), HH_alc, Cl_eq _ k, if_pos (OB_W ox), HH_st]
  rfl
theorem lS3 : tS3.length = 96 := by decide +kernel
def tS4 : List (Nat × Nat) := (tS3 ++ [(29, 14)]) ++ T84
def WS4 : List (Int × Int × Int) := (1, 5, ((96 + 1 : Nat) : Int)) :: (W84 ((96 + 1 : Nat) : Int) 37 97 ++ WS3)
theorem K1_46 (d : Nat) : V (d + 6) 1 46 [(2, 1)] [] (HH m L tS3 WS3) = V (d + 6) 1 61 [(2, 1)] [] (HH m L tS4 WS4) := by
  have n1 : OB (tS3 ++ [(29, 14)]) ((tS3.length + 1 : Nat) : Int) 29 14 := OB_new
  rw [lS3] at n1
  have l1 : (tS3 ++ [(29, 14)]).length = 97 := by rw [List.length_append, lS3]; rfl
  have k := K_84 (m := m) (L := L) (W := WS3) (b := 37) n1 (d + 5)
  rw [l1] at k
  have ox : OB ((tS3 ++ [(29, 14)]) ++ T84) 1 30 15 := ⟨by decide, by decide +kernel⟩
  have e3 : ld (HH m L (tS3 ++ [(29, 14)]) WS3) 1 3 = 37 := ld_lk (by decide +kernel)
  have oy : OB (tS3 ++ [(29, 14)]) 1 30 15 := ⟨by decide, by decide +kernel⟩
  rw [e1_46, if_pos HH_okN, HH_nxt, lS3, HH_alc, if_pos (OB_F oy), if_neg (by decide), e3, Cl_eq _ k, if_pos (OB_W ox), HH_st]
  rfl
theorem lS4 : tS4.length = 104 := by decide +kernel
def tS5 : List (Nat × Nat) := (tS4 ++ [(29, 14)]) ++ T84
def WS5 : List (Int × Int × Int) := (1, 6, ((104 + 1 : Nat) : Int)) :: (W84 ((104 + 1 : Nat) : Int) 37 105 ++ WS4)
theorem K1_61 (d : Nat) : V (d + 6) 1 61 [(2, 1)] [] (HH m L tS4 WS4) = V (d + 6) 1 76 [(2, 1)] [] (HH m L tS5 WS5) := by
  have n1 : OB (tS4 ++ [(29, 14)]) ((tS4.length + 1 : Nat) : Int) 29 14 := OB_new
  rw [lS4] at n1
  have l1 : (tS4 ++ [(29, 14)]).length = 105 := by rw [List.length_append, lS4]; rfl
  have k := K_84 (m := m) (L := L) (W := WS4) (b := 37) n1 (d + 5)
  rw [l1] at k
  have ox : OB ((tS4 ++ [(29, 14)]) ++ T84) 1 30 15 := ⟨by decide, by decide +kernel⟩
  have e3 : ld (HH m L (tS4 ++ [(29, 14)]) WS4) 1 3 = 37 := ld_lk (by decide +kernel)
  have oy : OB (tS4 ++ [(29, 14)]) 1 30 15 := ⟨by decide, by decide +kernel⟩
  rw [e1_61, if_pos HH_okN, HH_nxt, lS4, HH_alc, if_pos (OB_F oy), if_neg (by decide), e3, Cl_eq _ k, if_pos (OB_W ox), HH_st]
  rfl
theorem lS5 : tS5.length = 112 := by decide +kernel
def tS6 : List (Nat × Nat) := (tS5 ++ [(29, 14)]) ++ T84
def WS6 : List (Int × Int × Int) := (1, 7, ((112 + 1 : Nat) : Int)) :: (W84 ((112 + 1 : Nat) : Int) 37 113 ++ WS5)
theorem K1_76 (d : Nat) : V (d + 6) 1 76 [(2, 1)] [] (HH m L tS5 WS5) = V (d + 6) 1 91 [(2, 1)] [] (HH m L tS6 WS6) := by
  have n1 : OB (tS5 ++ [(29, 14)]) ((tS5.length + 1 : Nat) : Int) 29 14 := OB_new
  rw [lS5] at n1
  have l1 : (tS5 ++ [(29, 14)]).length = 113 := by rw [List.length_append, lS5]; rfl
  have k := K_84 (m := m) (L := L) (W := WS5) (b := 37) n1 (d + 5)
  rw [l1] at k
  have ox : OB ((tS5 ++ [(29, 14)]) ++ T84) 1 30 15 := ⟨by decide, by decide +kernel⟩
  have e3 : ld (HH m L (tS5 ++ [(29, 14)]) WS5) 1 3 = 37 := ld_lk (by decide +kernel)
  have oy : OB (tS5 ++ [(29, 14)]) 1 30 15 := ⟨by decide, by decide +kernel⟩
  rw [e1_76, if_pos HH_okN, HH_nxt, lS5, HH_alc, if_pos (OB_F oy), if_neg (by decide), e3, Cl_eq _ k, if_pos (OB_W ox), HH_st]
  rfl
theorem lS6 : tS6.length = 120 := by decide +kernel
def tS7 : List (Nat × Nat) := L131 20 ((tS6 ++ [(26, 3)]) ++ [(7, Int.toNat 20)])
def WS7 : List (Int × Int × Int) := (1, 9, ((120 + 1 : Nat) : Int)) :: G131 ((121 + 1 : Nat) : Int) 37 20 (121 + 1) 0 ((((120 + 1 : Nat) : Int), 0, ((121 + 1 : Nat) : Int)) :: WS6)
theorem K1_91 (d : Nat) : V (d + 6) 1 91 [(2, 1)] [] (HH m L tS6 WS6) = V (d + 6) 1 106 [(2, 1)] [] (HH m L tS7 WS7) := by
  have n1 : OB (tS6 ++ [(26, 3)]) ((tS6.length + 1 : Nat) : Int) 26 3 := OB_new
  rw [lS6] at n1
  have l1 : (tS6 ++ [(26, 3)]).length = 121 := by rw [List.length_append, lS6]; rfl
  have k := K_131 (m := m) (L := L) (W := WS6) (b := 37) n1 (by rw [l1]; decide) (d + 4)
  rw [l1] at k
  have ox : OB (L131 20 ((tS6 ++ [(26, 3)]) ++ [(7, Int.toNat 20)])) 1 30 15 := ⟨by decide, by decide +kernel⟩
  have e3 : ld (HH m L (tS6 ++ [(26, 3)]) WS6) 1 3 = 37 := ld_lk (by decide +kernel)
  have oy : OB (tS6 ++ [(26, 3)]) 1 30 15 := ⟨by decide, by decide +kernel⟩
  rw [e1_91, if_pos HH_okN, HH_nxt, lS6, HH_alc, if_pos (OB_F oy), if_neg (by decide), e3, Cl_eq _ k, if_pos (OB_W ox), HH_st]
  rfl
theorem lS7 : tS7.length = 282 := by decide +kernel
def tS8 : List (Nat × Nat) := (tS7 ++ [(24, 9)]) ++ T108
def WS8 : List (Int × Int × Int) := (1, 10, ((282 + 1 : Nat) : Int)) :: (W108 ((282 + 1 : Nat) : Int) 283 ++ WS7)
theorem K1_106 (d : Nat) : V (d + 6) 1 106 [(2, 1)] [] (HH m L tS7 WS7) = V (d + 6) 1 117 [(2, 1)] [] (HH m L tS8 WS8) := by
  have n1 : OB (tS7 ++ [(24, 9)]) ((tS7.length + 1 : Nat) : Int) 24 9 := OB_new
  rw [lS7] at n1
  have l1 : (tS7 ++ [(24, 9)]).length = 283 := by rw [List.length_append, lS7]; rfl
  have k := K_108 (m := m) (L := L) (W := WS7) n1 (d + 5)
  rw [l1] at k
  have ox : OB ((tS7 ++ [(24, 9)]) ++ T108) 1 30 15 := ⟨by decide, by decide +kernel⟩
  rw [e1_106, if_pos HH_okN, HH_nxt, lS7, if_neg (by decide), HH_alc, Cl_eq _ k, if_pos (OB_W ox), HH_st]
  rfl
theorem lS8 : tS8.length = 286 := by decide +kernel
def tS9 : List (Nat × Nat) := tS8 ++ (8, Int.toNat 3) :: List.replicate (Int.toNat 3) (0, Int.toNat 100)
def WS9 : List (Int × Int × Int) := (1, 11, ((286 + 1 : Nat) : Int)) :: (rowsF (Int.toNat 3) ((286 + 1 : Nat) : Int) ++ WS8)
theorem K1_117 (d : Nat) : V (d + 6) 1 117 [(2, 1)] [] (HH m L tS8 WS8) = V (d + 6) 1 128 [(2, 1)] [] (HH m L tS9 WS9) := by
  have ox : OB (tS8 ++ (8, Int.toNat 3) :: List.replicate (Int.toNat 3) (0, Int.toNat 100)) 1 30 15 := ⟨by decide, by decide +kernel⟩
  rw [e1_117, if_pos HH_okN, if_pos (by decide), HH_nxt, lS8, HH_mal, lS8, if_pos (OB_W ox), HH_st]
  rfl
theorem lS9 : tS9.length = 290 := by decide +kernel
def tS10 : List (Nat × Nat) := (tS9 ++ [(20, 4)]) ++ T118
def WS10 : List (Int × Int × Int) := (1, 12, ((290 + 1 : Nat) : Int)) :: (W118 ((290 + 1 : Nat) : Int) 291 ++ WS9)
theorem K1_128 (d : Nat) : V (d + 6) 1 128 [(2, 1)] [] (HH m L tS9 WS9) = V (d + 6) 1 139 [(2, 1)] [] (HH m L tS10 WS10) := by
  have n1 : OB (tS9 ++ [(20, 4)]) ((tS9.length + 1 : Nat) : Int) 20 4 := OB_new
  rw [lS9] at n1
  have l1 : (tS9 ++ [(20, 4)]).length = 291 := by rw [List.length_append, lS9]; rfl
  have k := K_118 (m := m) (L := L) (W := WS9) n1 (d + 5)
  rw [l1] at k
  have ox : OB ((tS9 ++ [(20, 4)]) ++ T118) 1 30 15 := ⟨by decide, by decide +kernel⟩
  rw [e1_128, if_pos HH_okN, HH_nxt, lS9, if_neg (by decide), HH_alc, Cl_eq _ k, if_pos (OB_W ox), HH_st]
  rfl
theorem lS10 : tS10.length = 292 := by decide +kernel
def tS11 : List (Nat × Nat) := (tS10 ++ [(23, 4)]) ++ T120
def WS11 : List (Int × Int × Int) := (1, 13, ((292 + 1 : Nat) : Int)) :: (W120 ((292 + 1 : Nat) : Int) 293 ++ WS10)
theorem K1_139 (d : Nat) : V (d + 6) 1 139 [(2, 1)] [] (HH m L tS10 WS10) = V (d + 6) 1 150 [(2, 1)] [] (HH m L tS11 WS11) := by
  have n1 : OB (tS10 ++ [(23, 4)]) ((tS10.length + 1 : Nat) : Int) 23 4 := OB_new
  rw [lS10] at n1
  have l1 : (tS10 ++ [(23, 4)]).length = 293 := by rw [List.length_append, lS10]; rfl
  have k := K_120 (m := m) (L := L) (W := WS10) n1 (d + 5)
  rw [l1] at k
  have ox : OB ((tS10 ++ [(23, 4)]) ++ T120) 1 30 15 := ⟨by decide, by decide +kernel⟩
  rw [e1_139, if_pos HH_okN, HH_nxt, lS10, if_neg (by decide), HH_alc, Cl_eq _ k, if_pos (OB_W ox), HH_st]
  rfl
theorem lS11 : tS11.length = 307 := by decide +kernel
def tS12 : List (Nat × Nat) := (tS11 ++ [(28, 6)]) ++ T125
def WS12 : List (Int × Int × Int) := (1, 14, ((307 + 1 : Nat) : Int)) :: (W125 ((307 + 1 : Nat) : Int) 308 ++ WS11)
theorem K1_150 (d : Nat) : V (d + 6) 1 150 [(2, 1)] [] (HH m L tS11 WS11) = V (d + 6) 1 161 [(9, 0)] [] (HH m L tS12 WS12) := by
  have n1 : OB (tS11 ++ [(28, 6)]) ((tS11.length + 1 : Nat) : Int) 28 6 := OB_new
  rw [lS11] at n1
  have l1 : (tS11 ++ [(28, 6)]).length = 308 := by rw [List.length_append, lS11]; rfl
  have k := K_125 (m := m) (L := L) (W := WS11) n1 (d + 5)
  rw [l1] at k
  have ox : OB ((tS11 ++ [(28, 6)]) ++ T125) 1 30 15 := ⟨by decide, by decide +kernel⟩
  rw [e1_150, if_pos HH_okN, HH_nxt, lS11, if_neg (by decide), HH_alc, Cl_eq _ k, if_pos (OB_W ox), HH_st]
  rfl
theorem lS12 : tS12.length = 310 := by decide +kernel
theorem K_1 (d : Nat) : C (d + 6) 1 [(2, 1)] (HH m L [(30, 15)] []) = some ((9, 0), HH m L tS12 WS12) := by
  rw [K1_0, K1_13, K1_24, K1_35, K1_46, K1_61, K1_76, K1_91, K1_106, K1_117, K1_128, K1_139, K1_150, e1_161]
def tP0 : List (Nat × Nat) := tS12 ++ [(31, 73)]
def tP1 : List (Nat × Nat) := tP0 ++ T135a
def tP2 : List (Nat × Nat) := tP1 ++ T135b
def tP3 : List (Nat × Nat) := tP2 ++ T135c
def WP1 : List (Int × Int × Int) := W135a 311 311 ++ WS12
def WP2 : List (Int × Int × Int) := W135b 311 318 ++ WP1
def WP3 : List (Int × Int × Int) := W135c 311 321 ++ WP2
theorem lP0 : tP0.length = 311 := by decide +kernel
theorem lP1 : tP1.length = 318 := by decide +kernel
theorem lP2 : tP2.length = 321 := by decide +kernel
theorem lP3 : tP3.length = 355 := by decide +kernel
theorem oP0 : OB tP0 311 31 73 := ⟨by decide, by decide +kernel⟩
theorem ld_nk {t : List (Nat × Nat)} {W : List (Int × Int × Int)} {a j : Int} (e : lk W a j = none) : ld (HH m L t W) a j = m a j := by
  show look W a j (m a j) = m a j
  rw [look_lk, e]; rfl
theorem ld_cons {t : List (Nat × Nat)} {W : List (Int × Int × Int)} (a i v b j : Int) : ld (HH m L t ((a, i, v) :: W)) b j = if b = a ∧ j = i then v else ld (HH m L t W) b j := rfl
def PQ (m : Int → Int → Int) (L : Nat) (W : List (Int × Int × Int)) : Prop := (∀ j, ld (HH m L tP3 W) 311 j = ld (HH m L tP3 WP3) 311 j) ∧ ∀ j, ld (HH m L tP3 W) 313 j = ld (HH m L tP3 WP3) 313 j
theorem PQ_c {W : List (Int × Int × Int)} (p : PQ m L W) {a : Int} (h1 : ¬ 311 = a) (h3 : ¬ 313 = a) (i v : Int) : PQ m L ((a, i, v) :: W) := ⟨fun j => by rw [ld_cons, if_neg (fun u => h1 u.1)]; exact p.1 j, fun j => by rw [ld_cons, if_neg (fun u => h3 u.1)]; exact p.2 j⟩
def mk5 : Nat → Int → List (Int × Int × Int) → List (Int × Int × Int)
  | 0, _, W => W
  | n + 1, k, W => mk5 n (k + 1) ((338, k, 0) :: W)
def mk10 : Nat → Int → List (Int × Int × Int) → List (Int × Int × Int)
  | 0, _, W => W
  | n + 1, k, W => mk10 n (k + 1) ((341, k, -1) :: (340, k, 0) :: (339, k, 0) :: W)
theorem PQ_5 : ∀ (n : Nat) (k : Int) (W : List (Int × Int × Int)), PQ m L W → PQ m L (mk5 n k W)
  | 0, _, _, p => p
  | n + 1, k, W, p => PQ_5 n (k + 1) _ (PQ_c p (a := 338) (by decide) (by decide) k 0)
theorem q313 : OB tP3 313 0 14 := ⟨by decide, by decide +kernel⟩
theorem q333 : OB tP3 333 0 23 := ⟨by decide, by decide +kernel⟩
theorem q334 : OB tP3 334 0 23 := ⟨by decide, by decide +kernel⟩
theorem q335 : OB tP3 335 0 23 := ⟨by decide, by decide +kernel⟩
theorem q336 : OB tP3 336 0 23 := ⟨by decide, by decide +kernel⟩
theorem q337 : OB tP3 337 0 23 := ⟨by decide, by decide +kernel⟩
theorem q338 : OB tP3 338 0 115 := ⟨by decide, by decide +kernel⟩
theorem q339 : OB tP3 339 0 230 := ⟨by decide, by decide +kernel⟩
theorem q340 : OB tP3 340 0 230 := ⟨by decide, by decide +kernel⟩
theorem q341 : OB tP3 341 0 230 := ⟨by decide, by decide +kernel⟩
theorem q342 : OB tP3 342 0 23 := ⟨by decide, by decide +kernel⟩
theorem q311 : OB tP3 311 31 73 := ⟨by decide, by decide +kernel⟩
theorem qp36 {W : List (Int × Int × Int)} (p : PQ m L W) : ld (HH m L tP3 W) 311 36 = 333 := (p.1 36).trans (ld_lk (by decide +kernel))
theorem qp37 {W : List (Int × Int × Int)} (p : PQ m L W) : ld (HH m L tP3 W) 311 37 = 334 := (p.1 37).trans (ld_lk (by decide +kernel))
theorem qp38 {W : List (Int × Int × Int)} (p : PQ m L W) : ld (HH m L tP3 W) 311 38 = 335 := (p.1 38).trans (ld_lk (by decide +kernel))
theorem qp39 {W : List (Int × Int × Int)} (p : PQ m L W) : ld (HH m L tP3 W) 311 39 = 336 := (p.1 39).trans (ld_lk (by decide +kernel))
theorem qp40 {W : List (Int × Int × Int)} (p : PQ m L W) : ld (HH m L tP3 W) 311 40 = 337 := (p.1 40).trans (ld_lk (by decide +kernel))
theorem qp45 {W : List (Int × Int × Int)} (p : PQ m L W) : ld (HH m L tP3 W) 311 45 = 342 := (p.1 45).trans (ld_lk (by decide +kernel))
theorem qp41 {W : List (Int × Int × Int)} (p : PQ m L W) : ld (HH m L tP3 W) 311 41 = 338 := (p.1 41).trans (ld_lk (by decide +kernel))
theorem qp42 {W : List (Int × Int × Int)} (p : PQ m L W) : ld (HH m L tP3 W) 311 42 = 339 := (p.1 42).trans (ld_lk (by decide +kernel))
theorem qp43 {W : List (Int × Int × Int)} (p : PQ m L W) : ld (HH m L tP3 W) 311 43 = 340 := (p.1 43).trans (ld_lk (by decide +kernel))
theorem qp44 {W : List (Int × Int × Int)} (p : PQ m L W) : ld (HH m L tP3 W) 311 44 = 341 := (p.1 44).trans (ld_lk (by decide +kernel))
theorem qp3 {W : List (Int × Int × Int)} (p : PQ m L W) : ld (HH m L tP3 W) 311 3 = 313 := (p.1 3).trans (ld_lk (by decide +kernel))
theorem qz {W : List (Int × Int × Int)} (p : PQ m L W) (hm : m 313 1 = 0) : ld (HH m L tP3 W) 313 1 = 0 := (p.2 1).trans ((ld_nk (by decide +kernel)).trans hm)
theorem K177_5 (hm : m 313 1 = 0) (d : Nat) : ∀ (n : Nat) (k : Int) (W : List (Int × Int × Int)), PQ m L W → 0 ≤ k → k + n = 5 → V d 177 44 [(2, 311), (0, k)] [] (HH m L tP3 W) = V d 177 81 [(2, 311), (9, 0)] [] (HH m L tP3 (mk5 n k W))
  | 0, k, W, p, k0, hk => by rw [e177_44, if_neg (by omega)]; rfl
  | n + 1, k, W, p, k0, hk => by
    rw [e177_44, if_pos (by omega), if_pos (OB_F q311), if_pos (OB_F q311), qp3 p, if_pos (OB_F q313), OB_L q313, if_pos (by decide), qz p hm, if_neg (by omega), qp41 p, e177_73, e177_74, if_pos (OB_W q338), OB_L q338, if_pos (by omega), HH_st, show w32 (k + 1) = k + 1 by unfold w32; omega]
    exact K177_5 hm d n (k + 1) _ (PQ_c p (a := 338) (by decide) (by decide) k 0) (by omega) (by omega)
theorem K177_10 (d : Nat) : ∀ (n : Nat) (k : Int) (W : List (Int × Int × Int)), PQ m L W → 0 ≤ k → k + n = 10 → V d 177 83 [(2, 311), (0, k)] [] (HH m L tP3 W) = some ((9, 0), HH m L tP3 (mk10 n k W))
  | 0, k, W, p, k0, hk => by rw [e177_83, if_neg (by omega), e177_116]; rfl
  | n + 1, k, W, p, k0, hk => by
    have p1 := PQ_c p (a := 339) (by decide) (by decide) k 0
    have p2 := PQ_c p1 (a := 340) (by decide) (by decide) k 0
    rw [e177_83, if_pos (by omega), if_pos (OB_F q311), qp42 p, if_pos (OB_W q339), OB_L q339, if_pos (by omega), HH_st, e177_96, if_pos (OB_F q311), qp43 p1, if_pos (OB_W q340), OB_L q340, if_pos (by omega), HH_st, e177_103, if_pos (OB_F q311), qp44 p2, if_pos (OB_W q341), OB_L q341, if_pos (by omega), HH_st, e177_110, show w32 (k + 1) = k + 1 by unfold w32; omega]
    exact K177_10 d n (k + 1) _ (PQ_c p2 (a := 341) (by decide) (by decide) k (-1)) (by omega) (by omega)
def WQ0 : List (Int × Int × Int) := (342, 0, 0) :: (337, 0, 0) :: (336, 0, 0) :: (335, 0, 0) :: (334, 0, 0) :: (333, 0, 0) :: WP3
def WQ : List (Int × Int × Int) := mk10 10 0 (mk5 5 0 WQ0)
theorem K_177 (hm : m 313 1 = 0) (d : Nat) : C d 177 [(2, 311)] (HH m L tP3 WP3) = some ((9, 0), HH m L tP3 WQ) := by
  have p0 : PQ m L WP3 := ⟨fun _ => rfl, fun _ => rfl⟩
  have p1 := PQ_c p0 (a := 333) (by decide) (by decide) 0 0
  have p2 := PQ_c p1 (a := 334) (by decide) (by decide) 0 0
  have p3 := PQ_c p2 (a := 335) (by decide) (by decide) 0 0
  have p4 := PQ_c p3 (a := 336) (by decide) (by decide) 0 0
  have p5 := PQ_c p4 (a := 337) (by decide) (by decide) 0 0
  have p6 := PQ_c p5 (a := 342) (by decide) (by decide) 0 0
  rw [ce_177, e177_0, if_pos (OB_F q311), qp36 p0, if_pos (OB_W q333), OB_L q333, if_pos (by decide), HH_st, e177_7, if_pos (OB_F q311), qp37 p1, if_pos (OB_W q334), OB_L q334, if_pos (by decide), HH_st, e177_14, if_pos (OB_F q311), qp38 p2, if_pos (OB_W q335), OB_L q335, if_pos (by decide), HH_st, e177_21, if_pos (OB_F q311), qp39 p3, if_pos (OB_W q336), OB_L q336, if_pos (by decide), HH_st, e177_28, if_pos (OB_F q311), qp40 p4, if_pos (OB_W q337), OB_L q337, if_pos (by decide), HH_st, e177_35, if_pos (OB_F q311), qp45 p5, if_pos (OB_W q342), OB_L q342, if_pos (by decide), HH_st, e177_42]
  rw [K177_5 hm d 5 0 _ p6 (by decide) (by decide), e177_81, K177_10 d 10 0 _ (PQ_5 5 0 _ p6) (by decide) (by decide)]
  rfl
theorem K_135 (hm : m 313 1 = 0) (d : Nat) : C (d + 1) 135 [(2, 311)] (HH m L tP0 WS12) = some ((9, 0), HH m L tP3 WQ) := by
  have o1 : OB tP1 311 31 73 := OB_app oP0 T135a
  have o2 : OB tP2 311 31 73 := OB_app o1 T135b
  have k1 := K_135a (m := m) (L := L) (W := WS12) oP0 (d + 1)
  have k2 := K_135b (m := m) (L := L) (W := WP1) o1 (d + 1)
  have k3 := K_135c (m := m) (L := L) (W := WP2) o2 (d + 1)
  rw [lP0] at k1
  rw [lP1] at k2
  rw [lP2] at k3
  rw [k1, show HH m L (tP0 ++ T135a) (W135a 311 311 ++ WS12) = HH m L tP1 WP1 from rfl, k2, show HH m L (tP1 ++ T135b) (W135b 311 318 ++ WP1) = HH m L tP2 WP2 from rfl, k3, show HH m L (tP2 ++ T135c) (W135c 311 321 ++ WP2) = HH m L tP3 WP3 from rfl, e135_475, if_pos (OB_F q311), Cl_eq _ (K_177 hm d)]
end MD
