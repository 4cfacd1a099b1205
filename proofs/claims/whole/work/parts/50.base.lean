/-! layer 2: where all lies (objects and arrays are made once, in the constructors) -/
def SH : List (Nat × Nat) := [(30, 15), (3, 700), (25, 9), (27, 7), (3, 0), (21, 20), (0, 5), (0, 5), (0, 5), (0, 5), (0, 5), (0, 5), (0, 5), (0, 5), (0, 10), (0, 10), (0, 10), (8, 3), (0, 3), (0, 3), (0, 3), (2, 100), (6, 3), (22, 4), (5, 64), (0, 64), (1, 64), (22, 4), (5, 64), (0, 64), (1, 64), (22, 4), (5, 64), (0, 64), (1, 64), (5, 72), (21, 20), (0, 5), (0, 5), (0, 5), (0, 5), (0, 5), (0, 5), (0, 5), (0, 5), (0, 10), (0, 10), (0, 10), (8, 3), (0, 3), (0, 3), (0, 3), (2, 100), (6, 3), (22, 4), (5, 64), (0, 64), (1, 64), (22, 4), (5, 64), (0, 64), (1, 64), (22, 4), (5, 64), (0, 64), (1, 64), (21, 20), (0, 5), (0, 5), (0, 5), (0, 5), (0, 5), (0, 5), (0, 5), (0, 5), (0, 10), (0, 10), (0, 10), (8, 3), (0, 3), (0, 3), (0, 3), (2, 100), (6, 3), (22, 4), (5, 64), (0, 64), (1, 64), (22, 4), (5, 64), (0, 64), (1, 64), (22, 4), (5, 64), (0, 64), (1, 64), (29, 14), (0, 5), (0, 10), (0, 10), (0, 10), (0, 40), (0, 40), (0, 7), (29, 14), (0, 5), (0, 10), (0, 10), (0, 10), (0, 40), (0, 40), (0, 7), (29, 14), (0, 5), (0, 10), (0, 10), (0, 10), (0, 40), (0, 40), (0, 7), (26, 3), (7, 20), (29, 14), (0, 5), (0, 10), (0, 10), (0, 10), (0, 40), (0, 40), (0, 7), (29, 14), (0, 5), (0, 10), (0, 10), (0, 10), (0, 40), (0, 40), (0, 7), (29, 14), (0, 5), (0, 10), (0, 10), (0, 10), (0, 40), (0, 40), (0, 7), (29, 14), (0, 5), (0, 10), (0, 10), (0, 10), (0, 40), (0, 40), (0, 7), (29, 14), (0, 5), (0, 10), (0, 10), (0, 10), (0, 40), (0, 40), (0, 7), (29, 14), (0, 5), (0, 10), (0, 10), (0, 10), (0, 40), (0, 40), (0, 7), (29, 14), (0, 5), (0, 10), (0, 10), (0, 10), (0, 40), (0, 40), (0, 7), (29, 14), (0, 5), (0, 10), (0, 10), (0, 10), (0, 40), (0, 40), (0, 7), (29, 14), (0, 5), (0, 10), (0, 10), (0, 10), (0, 40), (0, 40), (0, 7), (29, 14), (0, 5), (0, 10), (0, 10), (0, 10), (0, 40), (0, 40), (0, 7), (29, 14), (0, 5), (0, 10), (0, 10), (0, 10), (0, 40), (0, 40), (0, 7), (29, 14), (0, 5), (0, 10), (0, 10), (0, 10), (0, 40), (0, 40), (0, 7), (29, 14), (0, 5), (0, 10), (0, 10), (0, 10), (0, 40), (0, 40), (0, 7), (29, 14), (0, 5), (0, 10), (0, 10), (0, 10), (0, 40), (0, 40), (0, 7), (29, 14), (0, 5), (0, 10), (0, 10), (0, 10), (0, 40), (0, 40), (0, 7), (29, 14), (0, 5), (0, 10), (0, 10), (0, 10), (0, 40), (0, 40), (0, 7), (29, 14), (0, 5), (0, 10), (0, 10), (0, 10), (0, 40), (0, 40), (0, 7), (29, 14), (0, 5), (0, 10), (0, 10), (0, 10), (0, 40), (0, 40), (0, 7), (29, 14), (0, 5), (0, 10), (0, 10), (0, 10), (0, 40), (0, 40), (0, 7), (29, 14), (0, 5), (0, 10), (0, 10), (0, 10), (0, 40), (0, 40), (0, 7), (24, 9), (0, 10), (0, 10), (0, 10), (8, 3), (0, 100), (0, 100), (0, 100), (20, 4), (0, 5), (23, 4), (0, 10), (8, 11), (0, 32), (0, 32), (0, 32), (0, 32), (0, 32), (0, 32), (0, 32), (0, 32), (0, 32), (0, 32), (0, 32), (0, 10), (28, 6), (0, 24), (0, 24), (31, 73), (0, 700), (0, 14), (0, 10), (0, 10), (0, 10), (0, 10), (0, 10), (0, 10), (0, 10), (0, 10), (0, 20), (0, 20), (0, 20), (0, 6), (0, 6), (0, 6), (0, 24), (0, 6), (0, 6), (0, 128), (0, 128), (0, 23), (0, 23), (0, 23), (0, 23), (0, 23), (0, 115), (0, 230), (0, 230), (0, 230), (0, 23), (0, 920), (0, 920), (0, 300), (0, 300), (0, 300), (1, 7), (1, 64), (0, 10), (0, 10), (0, 24), (2, 24), (0, 24), (2, 24), (1, 1)]
def PTL : List (Int × Int × Int) := [(1, 0, 2), (1, 2, 3), (3, 0, 4), (6, 1, 7), (6, 2, 8), (6, 3, 9), (6, 5, 10), (6, 6, 11), (6, 7, 12), (6, 9, 13), (6, 10, 14), (6, 12, 15), (6, 13, 16), (6, 14, 17), (6, 16, 18), (18, 0, 19), (18, 1, 20), (18, 2, 21), (6, 18, 22), (6, 19, 23), (23, 0, 24), (24, 0, 25), (24, 1, 26), (24, 2, 27), (23, 1, 28), (28, 0, 29), (28, 1, 30), (28, 2, 31), (23, 2, 32), (32, 0, 33), (32, 1, 34), (32, 2, 35), (3, 2, 36), (37, 1, 38), (37, 2, 39), (37, 3, 40), (37, 5, 41), (37, 6, 42), (37, 7, 43), (37, 9, 44), (37, 10, 45), (37, 12, 46), (37, 13, 47), (37, 14, 48), (37, 16, 49), (49, 0, 50), (49, 1, 51), (49, 2, 52), (37, 18, 53), (37, 19, 54), (54, 0, 55), (55, 0, 56), (55, 1, 57), (55, 2, 58), (54, 1, 59), (59, 0, 60), (59, 1, 61), (59, 2, 62), (54, 2, 63), (63, 0, 64), (63, 1, 65), (63, 2, 66), (67, 1, 68), (67, 2, 69), (67, 3, 70), (67, 5, 71), (67, 6, 72), (67, 7, 73), (67, 9, 74), (67, 10, 75), (67, 12, 76), (67, 13, 77), (67, 14, 78), (67, 16, 79), (79, 0, 80), (79, 1, 81), (79, 2, 82), (67, 18, 83), (67, 19, 84), (84, 0, 85), (85, 0, 86), (85, 1, 87), (85, 2, 88), (84, 1, 89), (89, 0, 90), (89, 1, 91), (89, 2, 92), (84, 2, 93), (93, 0, 94), (93, 1, 95), (93, 2, 96), (97, 6, 98), (97, 7, 99), (97, 8, 100), (97, 9, 101), (97, 11, 102), (97, 12, 103), (97, 13, 104), (105, 6, 106), (105, 7, 107), (105, 8, 108), (105, 9, 109), (105, 11, 110), (105, 12, 111), (105, 13, 112), (113, 6, 114), (113, 7, 115), (113, 8, 116), (113, 9, 117), (113, 11, 118), (113, 12, 119), (113, 13, 120), (1, 5, 97), (1, 6, 105), (1, 7, 113), (1, 9, 121), (121, 0, 122), (123, 6, 124), (123, 7, 125), (123, 8, 126), (123, 9, 127), (123, 11, 128), (123, 12, 129), (123, 13, 130), (122, 0, 123), (131, 6, 132), (131, 7, 133), (131, 8, 134), (131, 9, 135), (131, 11, 136), (131, 12, 137), (131, 13, 138), (122, 1, 131), (139, 6, 140), (139, 7, 141), (139, 8, 142), (139, 9, 143), (139, 11, 144), (139, 12, 145), (139, 13, 146), (122, 2, 139), (147, 6, 148), (147, 7, 149), (147, 8, 150), (147, 9, 151), (147, 11, 152), (147, 12, 153), (147, 13, 154), (122, 3, 147), (155, 6, 156), (155, 7, 157), (155, 8, 158), (155, 9, 159), (155, 11, 160), (155, 12, 161), (155, 13, 162), (122, 4, 155), (163, 6, 164), (163, 7, 165), (163, 8, 166), (163, 9, 167), (163, 11, 168), (163, 12, 169), (163, 13, 170), (122, 5, 163), (171, 6, 172), (171, 7, 173), (171, 8, 174), (171, 9, 175), (171, 11, 176), (171, 12, 177), (171, 13, 178), (122, 6, 171), (179, 6, 180), (179, 7, 181), (179, 8, 182), (179, 9, 183), (179, 11, 184), (179, 12, 185), (179, 13, 186), (122, 7, 179), (187, 6, 188), (187, 7, 189), (187, 8, 190), (187, 9, 191), (187, 11, 192), (187, 12, 193), (187, 13, 194), (122, 8, 187), (195, 6, 196), (195, 7, 197), (195, 8, 198), (195, 9, 199), (195, 11, 200), (195, 12, 201), (195, 13, 202), (122, 9, 195), (203, 6, 204), (203, 7, 205), (203, 8, 206), (203, 9, 207), (203, 11, 208), (203, 12, 209), (203, 13, 210), (122, 10, 203), (211, 6, 212), (211, 7, 213), (211, 8, 214), (211, 9, 215), (211, 11, 216), (211, 12, 217), (211, 13, 218), (122, 11, 211), (219, 6, 220), (219, 7, 221), (219, 8, 222), (219, 9, 223), (219, 11, 224), (219, 12, 225), (219, 13, 226), (122, 12, 219), (227, 6, 228), (227, 7, 229), (227, 8, 230), (227, 9, 231), (227, 11, 232), (227, 12, 233), (227, 13, 234), (122, 13, 227), (235, 6, 236), (235, 7, 237), (235, 8, 238), (235, 9, 239), (235, 11, 240), (235, 12, 241), (235, 13, 242), (122, 14, 235), (243, 6, 244), (243, 7, 245), (243, 8, 246), (243, 9, 247), (243, 11, 248), (243, 12, 249), (243, 13, 250), (122, 15, 243), (251, 6, 252), (251, 7, 253), (251, 8, 254), (251, 9, 255), (251, 11, 256), (251, 12, 257), (251, 13, 258), (122, 16, 251), (259, 6, 260), (259, 7, 261), (259, 8, 262), (259, 9, 263), (259, 11, 264), (259, 12, 265), (259, 13, 266), (122, 17, 259), (267, 6, 268), (267, 7, 269), (267, 8, 270), (267, 9, 271), (267, 11, 272), (267, 12, 273), (267, 13, 274), (122, 18, 267), (275, 6, 276), (275, 7, 277), (275, 8, 278), (275, 9, 279), (275, 11, 280), (275, 12, 281), (275, 13, 282), (122, 19, 275), (1, 10, 283), (283, 6, 284), (283, 7, 285), (283, 8, 286), (1, 11, 287), (287, 0, 288), (287, 1, 289), (287, 2, 290), (1, 12, 291), (291, 0, 292), (1, 13, 293), (293, 0, 294), (293, 1, 295), (295, 0, 296), (295, 1, 297), (295, 2, 298), (295, 3, 299), (295, 4, 300), (295, 5, 301), (295, 6, 302), (295, 7, 303), (295, 8, 304), (295, 9, 305), (295, 10, 306), (293, 2, 307), (1, 14, 308), (308, 0, 309), (308, 1, 310), (311, 1, 312), (311, 3, 313), (311, 4, 314), (311, 5, 315), (311, 6, 316), (311, 7, 317), (311, 8, 318), (311, 9, 319), (311, 10, 320), (311, 11, 321), (311, 12, 322), (311, 13, 323), (311, 14, 324), (311, 15, 325), (311, 16, 326), (311, 17, 327), (311, 18, 328), (311, 19, 329), (311, 20, 330), (311, 21, 331), (311, 22, 332), (311, 36, 333), (311, 37, 334), (311, 38, 335), (311, 39, 336), (311, 40, 337), (311, 41, 338), (311, 42, 339), (311, 43, 340), (311, 44, 341), (311, 45, 342), (311, 46, 343), (311, 47, 344), (311, 48, 345), (311, 49, 346), (311, 50, 347), (311, 55, 348), (311, 56, 349), (311, 64, 350), (311, 65, 351), (311, 69, 352), (311, 70, 353), (311, 71, 354), (311, 72, 355)]
def STL : List Int := [97, 105, 113, 123, 131, 139, 147, 155, 163, 171, 179, 187, 195, 203, 211, 219, 227, 235, 243, 251, 259, 267, 275]
def BKL : List Int := [37, 67]
def LWL : List Int := [55, 59, 63, 85, 89, 93]
/-- all has been made, and what never changes is there -/
def WF (h : Hp) : Prop := h.2.1 = SH ∧ (∀ q ∈ PTL, h.1 q.1 q.2.1 = q.2.2) ∧ ∀ a j : Int, a < 0 → a ≠ -50 → h.1 a j = gcmC (fun _ => 0) a j
def shQ (a : Int) (k n : Nat) : Bool := decide (0 < a) && (SH[(a - 1).toNat]? == some (k, n))
theorem wf_sh {h : Hp} (w : WF h) {a : Int} {k n : Nat} (e : shQ a k n = true) : okF h a k = true ∧ okW h a k = true ∧ len h a = (n : Int) := by
  unfold shQ at e
  rw [Bool.and_eq_true, decide_eq_true_eq, beq_iff_eq] at e
  have hs : shp h a = some (k, n) := by unfold shp; rw [if_pos e.1, w.1]; exact e.2
  refine ⟨by unfold okF; rw [hs]; simp, by unfold okW okF; rw [hs]; simp [e.1], by unfold len; rw [hs]; rfl⟩
theorem wf_ne {h : Hp} (w : WF h) {a : Int} {k n c : Nat} (e : shQ a k n = true) (hk : (k == c) = false) : okF h a c = false := by
  unfold shQ at e
  rw [Bool.and_eq_true, decide_eq_true_eq, beq_iff_eq] at e
  have hs : shp h a = some (k, n) := by unfold shp; rw [if_pos e.1, w.1]; exact e.2
  unfold okF; rw [hs]
  show ((some k : Option Nat) == some c) = false
  exact hk
theorem wf_pt {h : Hp} (w : WF h) {a j v : Int} (e : (a, j, v) ∈ PTL) : ld h a j = v := w.2.1 _ e
/-- a place that is no pointer's -/
def npt (a j : Int) : Prop := 0 < a ∧ ∀ q ∈ PTL, ¬ (q.1 = a ∧ q.2.1 = j)
theorem wf_st {h : Hp} (w : WF h) {a j v : Int} (hn : npt a j) : WF (st h a j v) := ⟨w.1, fun q hq => by
  show (if q.1 = a ∧ q.2.1 = j then v else h.1 q.1 q.2.1) = q.2.2
  rw [if_neg (hn.2 q hq)]; exact w.2.1 q hq, fun b k hb hb2 => by
  show (if b = a ∧ k = j then v else h.1 b k) = _
  rw [if_neg (fun z => by have := hn.1; omega)]; exact w.2.2 b k hb hb2⟩
theorem okF_st (h : Hp) (a j v b : Int) (c : Nat) : okF (st h a j v) b c = okF h b c := rfl
theorem okW_st (h : Hp) (a j v b : Int) (c : Nat) : okW (st h a j v) b c = okW h b c := rfl
theorem len_st (h : Hp) (a j v b : Int) : len (st h a j v) b = len h b := rfl
theorem okN_st (h : Hp) (a j v : Int) : okN (st h a j v) = okN h := rfl
theorem ld_st (h : Hp) (a j v b k : Int) : ld (st h a j v) b k = if b = a ∧ k = j then v else ld h b k := rfl
theorem ld_st_ne {h : Hp} {a j v b k : Int} (e : b ≠ a ∨ k ≠ j) : ld (st h a j v) b k = ld h b k := by
  rw [ld_st, if_neg (fun q => e.elim (fun z => z q.1) (fun z => z q.2))]
theorem ld_st_eq (h : Hp) (a j v : Int) : ld (st h a j v) a j = v := if_pos ⟨rfl, rfl⟩
theorem okF_cpy (h : Hp) (s p t q n b : Int) (c : Nat) : okF (cpy h s p t q n) b c = okF h b c := rfl
theorem okW_cpy (h : Hp) (s p t q n b : Int) (c : Nat) : okW (cpy h s p t q n) b c = okW h b c := rfl
theorem len_cpy (h : Hp) (s p t q n b : Int) : len (cpy h s p t q n) b = len h b := rfl
theorem ld_cpy (h : Hp) (s p t q n b j : Int) : ld (cpy h s p t q n) b j = if b = t ∧ q ≤ j ∧ j < q + n then ld h s (p + (j - q)) else ld h b j := rfl
theorem wf_cpy {h : Hp} (w : WF h) {s p t q n : Int} (hn : ∀ j, npt t j) : WF (cpy h s p t q n) := ⟨w.1, fun r hr => by
  show (if r.1 = t ∧ q ≤ r.2.1 ∧ r.2.1 < q + n then h.1 s (p + (r.2.1 - q)) else h.1 r.1 r.2.1) = r.2.2
  rw [if_neg (fun z => (hn r.2.1).2 r hr ⟨z.1, rfl⟩)]; exact w.2.1 r hr, fun b k hb hb2 => by
  show (if b = t ∧ q ≤ k ∧ k < q + n then h.1 s (p + (k - q)) else h.1 b k) = _
  rw [if_neg (fun z => by have := (hn 0).1; omega)]; exact w.2.2 b k hb hb2⟩
/-- places of a kind that hold no pointers: whole arrays of numbers, an object's number -/
def nptA (a : Int) : Bool := decide (0 < a) && PTL.all (fun q => decide (q.1 ≠ a))
theorem npt_A {a : Int} (e : nptA a = true) (j : Int) : npt a j := by
  unfold nptA at e
  rw [Bool.and_eq_true, decide_eq_true_eq] at e
  exact ⟨e.1, fun q hq z => (of_decide_eq_true (List.all_eq_true.mp e.2 q hq)) z.1⟩
def nptJ (a j : Int) : Bool := decide (0 < a) && PTL.all (fun q => decide (¬ (q.1 = a ∧ q.2.1 = j)))
theorem npt_J {a j : Int} (e : nptJ a j = true) : npt a j := by
  unfold nptJ at e
  rw [Bool.and_eq_true, decide_eq_true_eq] at e
  exact ⟨e.1, fun q hq => of_decide_eq_true (List.all_eq_true.mp e.2 q hq)⟩
theorem F_a1 {h : Hp} (w : WF h) : okF h 1 30 = true := (wf_sh w (n := 15) (by decide +kernel)).1
theorem W_a1 {h : Hp} (w : WF h) : okW h 1 30 = true := (wf_sh w (n := 15) (by decide +kernel)).2.1
theorem F_a2 {h : Hp} (w : WF h) : okF h 2 3 = true := (wf_sh w (n := 700) (by decide +kernel)).1
theorem W_a2 {h : Hp} (w : WF h) : okW h 2 3 = true := (wf_sh w (n := 700) (by decide +kernel)).2.1
theorem L_a2 {h : Hp} (w : WF h) : len h 2 = 700 := (wf_sh w (k := 3) (by decide +kernel)).2.2
theorem F_a3 {h : Hp} (w : WF h) : okF h 3 25 = true := (wf_sh w (n := 9) (by decide +kernel)).1
theorem W_a3 {h : Hp} (w : WF h) : okW h 3 25 = true := (wf_sh w (n := 9) (by decide +kernel)).2.1
theorem F_a4 {h : Hp} (w : WF h) : okF h 4 27 = true := (wf_sh w (n := 7) (by decide +kernel)).1
theorem W_a4 {h : Hp} (w : WF h) : okW h 4 27 = true := (wf_sh w (n := 7) (by decide +kernel)).2.1
theorem F_a5 {h : Hp} (w : WF h) : okF h 5 3 = true := (wf_sh w (n := 0) (by decide +kernel)).1
theorem W_a5 {h : Hp} (w : WF h) : okW h 5 3 = true := (wf_sh w (n := 0) (by decide +kernel)).2.1
theorem L_a5 {h : Hp} (w : WF h) : len h 5 = 0 := (wf_sh w (k := 3) (by decide +kernel)).2.2
theorem F_a36 {h : Hp} (w : WF h) : okF h 36 5 = true := (wf_sh w (n := 72) (by decide +kernel)).1
theorem W_a36 {h : Hp} (w : WF h) : okW h 36 5 = true := (wf_sh w (n := 72) (by decide +kernel)).2.1
theorem L_a36 {h : Hp} (w : WF h) : len h 36 = 72 := (wf_sh w (k := 5) (by decide +kernel)).2.2
theorem F_a97 {h : Hp} (w : WF h) : okF h 97 29 = true := (wf_sh w (n := 14) (by decide +kernel)).1
theorem W_a97 {h : Hp} (w : WF h) : okW h 97 29 = true := (wf_sh w (n := 14) (by decide +kernel)).2.1
theorem F_a105 {h : Hp} (w : WF h) : okF h 105 29 = true := (wf_sh w (n := 14) (by decide +kernel)).1
theorem W_a105 {h : Hp} (w : WF h) : okW h 105 29 = true := (wf_sh w (n := 14) (by decide +kernel)).2.1
theorem F_a113 {h : Hp} (w : WF h) : okF h 113 29 = true := (wf_sh w (n := 14) (by decide +kernel)).1
theorem W_a113 {h : Hp} (w : WF h) : okW h 113 29 = true := (wf_sh w (n := 14) (by decide +kernel)).2.1
theorem F_a121 {h : Hp} (w : WF h) : okF h 121 26 = true := (wf_sh w (n := 3) (by decide +kernel)).1
theorem W_a121 {h : Hp} (w : WF h) : okW h 121 26 = true := (wf_sh w (n := 3) (by decide +kernel)).2.1
theorem F_a122 {h : Hp} (w : WF h) : okF h 122 7 = true := (wf_sh w (n := 20) (by decide +kernel)).1
theorem W_a122 {h : Hp} (w : WF h) : okW h 122 7 = true := (wf_sh w (n := 20) (by decide +kernel)).2.1
theorem L_a122 {h : Hp} (w : WF h) : len h 122 = 20 := (wf_sh w (k := 7) (by decide +kernel)).2.2
theorem F_a283 {h : Hp} (w : WF h) : okF h 283 24 = true := (wf_sh w (n := 9) (by decide +kernel)).1
theorem W_a283 {h : Hp} (w : WF h) : okW h 283 24 = true := (wf_sh w (n := 9) (by decide +kernel)).2.1
theorem F_a284 {h : Hp} (w : WF h) : okF h 284 0 = true := (wf_sh w (n := 10) (by decide +kernel)).1
theorem W_a284 {h : Hp} (w : WF h) : okW h 284 0 = true := (wf_sh w (n := 10) (by decide +kernel)).2.1
theorem L_a284 {h : Hp} (w : WF h) : len h 284 = 10 := (wf_sh w (k := 0) (by decide +kernel)).2.2
theorem F_a285 {h : Hp} (w : WF h) : okF h 285 0 = true := (wf_sh w (n := 10) (by decide +kernel)).1
theorem W_a285 {h : Hp} (w : WF h) : okW h 285 0 = true := (wf_sh w (n := 10) (by decide +kernel)).2.1
theorem L_a285 {h : Hp} (w : WF h) : len h 285 = 10 := (wf_sh w (k := 0) (by decide +kernel)).2.2
theorem F_a286 {h : Hp} (w : WF h) : okF h 286 0 = true := (wf_sh w (n := 10) (by decide +kernel)).1
theorem W_a286 {h : Hp} (w : WF h) : okW h 286 0 = true := (wf_sh w (n := 10) (by decide +kernel)).2.1
theorem L_a286 {h : Hp} (w : WF h) : len h 286 = 10 := (wf_sh w (k := 0) (by decide +kernel)).2.2
theorem F_a287 {h : Hp} (w : WF h) : okF h 287 8 = true := (wf_sh w (n := 3) (by decide +kernel)).1
theorem W_a287 {h : Hp} (w : WF h) : okW h 287 8 = true := (wf_sh w (n := 3) (by decide +kernel)).2.1
theorem L_a287 {h : Hp} (w : WF h) : len h 287 = 3 := (wf_sh w (k := 8) (by decide +kernel)).2.2
theorem F_a288 {h : Hp} (w : WF h) : okF h 288 0 = true := (wf_sh w (n := 100) (by decide +kernel)).1
theorem W_a288 {h : Hp} (w : WF h) : okW h 288 0 = true := (wf_sh w (n := 100) (by decide +kernel)).2.1
theorem L_a288 {h : Hp} (w : WF h) : len h 288 = 100 := (wf_sh w (k := 0) (by decide +kernel)).2.2
theorem F_a289 {h : Hp} (w : WF h) : okF h 289 0 = true := (wf_sh w (n := 100) (by decide +kernel)).1
theorem W_a289 {h : Hp} (w : WF h) : okW h 289 0 = true := (wf_sh w (n := 100) (by decide +kernel)).2.1
theorem L_a289 {h : Hp} (w : WF h) : len h 289 = 100 := (wf_sh w (k := 0) (by decide +kernel)).2.2
theorem F_a290 {h : Hp} (w : WF h) : okF h 290 0 = true := (wf_sh w (n := 100) (by decide +kernel)).1
theorem W_a290 {h : Hp} (w : WF h) : okW h 290 0 = true := (wf_sh w (n := 100) (by decide +kernel)).2.1
theorem L_a290 {h : Hp} (w : WF h) : len h 290 = 100 := (wf_sh w (k := 0) (by decide +kernel)).2.2
theorem F_a291 {h : Hp} (w : WF h) : okF h 291 20 = true := (wf_sh w (n := 4) (by decide +kernel)).1
theorem W_a291 {h : Hp} (w : WF h) : okW h 291 20 = true := (wf_sh w (n := 4) (by decide +kernel)).2.1
theorem F_a292 {h : Hp} (w : WF h) : okF h 292 0 = true := (wf_sh w (n := 5) (by decide +kernel)).1
theorem W_a292 {h : Hp} (w : WF h) : okW h 292 0 = true := (wf_sh w (n := 5) (by decide +kernel)).2.1
theorem L_a292 {h : Hp} (w : WF h) : len h 292 = 5 := (wf_sh w (k := 0) (by decide +kernel)).2.2
theorem F_a293 {h : Hp} (w : WF h) : okF h 293 23 = true := (wf_sh w (n := 4) (by decide +kernel)).1
theorem W_a293 {h : Hp} (w : WF h) : okW h 293 23 = true := (wf_sh w (n := 4) (by decide +kernel)).2.1
theorem F_a294 {h : Hp} (w : WF h) : okF h 294 0 = true := (wf_sh w (n := 10) (by decide +kernel)).1
theorem W_a294 {h : Hp} (w : WF h) : okW h 294 0 = true := (wf_sh w (n := 10) (by decide +kernel)).2.1
theorem L_a294 {h : Hp} (w : WF h) : len h 294 = 10 := (wf_sh w (k := 0) (by decide +kernel)).2.2
theorem F_a295 {h : Hp} (w : WF h) : okF h 295 8 = true := (wf_sh w (n := 11) (by decide +kernel)).1
theorem W_a295 {h : Hp} (w : WF h) : okW h 295 8 = true := (wf_sh w (n := 11) (by decide +kernel)).2.1
theorem L_a295 {h : Hp} (w : WF h) : len h 295 = 11 := (wf_sh w (k := 8) (by decide +kernel)).2.2
theorem F_a296 {h : Hp} (w : WF h) : okF h 296 0 = true := (wf_sh w (n := 32) (by decide +kernel)).1
theorem W_a296 {h : Hp} (w : WF h) : okW h 296 0 = true := (wf_sh w (n := 32) (by decide +kernel)).2.1
theorem L_a296 {h : Hp} (w : WF h) : len h 296 = 32 := (wf_sh w (k := 0) (by decide +kernel)).2.2
theorem F_a297 {h : Hp} (w : WF h) : okF h 297 0 = true := (wf_sh w (n := 32) (by decide +kernel)).1
theorem W_a297 {h : Hp} (w : WF h) : okW h 297 0 = true := (wf_sh w (n := 32) (by decide +kernel)).2.1
theorem L_a297 {h : Hp} (w : WF h) : len h 297 = 32 := (wf_sh w (k := 0) (by decide +kernel)).2.2
theorem F_a298 {h : Hp} (w : WF h) : okF h 298 0 = true := (wf_sh w (n := 32) (by decide +kernel)).1
theorem W_a298 {h : Hp} (w : WF h) : okW h 298 0 = true := (wf_sh w (n := 32) (by decide +kernel)).2.1
theorem L_a298 {h : Hp} (w : WF h) : len h 298 = 32 := (wf_sh w (k := 0) (by decide +kernel)).2.2
theorem F_a299 {h : Hp} (w : WF h) : okF h 299 0 = true := (wf_sh w (n := 32) (by decide +kernel)).1
theorem W_a299 {h : Hp} (w : WF h) : okW h 299 0 = true := (wf_sh w (n := 32) (by decide +kernel)).2.1
theorem L_a299 {h : Hp} (w : WF h) : len h 299 = 32 := (wf_sh w (k := 0) (by decide +kernel)).2.2
theorem F_a300 {h : Hp} (w : WF h) : okF h 300 0 = true := (wf_sh w (n := 32) (by decide +kernel)).1
theorem W_a300 {h : Hp} (w : WF h) : okW h 300 0 = true := (wf_sh w (n := 32) (by decide +kernel)).2.1
theorem L_a300 {h : Hp} (w : WF h) : len h 300 = 32 := (wf_sh w (k := 0) (by decide +kernel)).2.2
theorem F_a301 {h : Hp} (w : WF h) : okF h 301 0 = true := (wf_sh w (n := 32) (by decide +kernel)).1
theorem W_a301 {h : Hp} (w : WF h) : okW h 301 0 = true := (wf_sh w (n := 32) (by decide +kernel)).2.1
theorem L_a301 {h : Hp} (w : WF h) : len h 301 = 32 := (wf_sh w (k := 0) (by decide +kernel)).2.2
theorem F_a302 {h : Hp} (w : WF h) : okF h 302 0 = true := (wf_sh w (n := 32) (by decide +kernel)).1
theorem W_a302 {h : Hp} (w : WF h) : okW h 302 0 = true := (wf_sh w (n := 32) (by decide +kernel)).2.1
theorem L_a302 {h : Hp} (w : WF h) : len h 302 = 32 := (wf_sh w (k := 0) (by decide +kernel)).2.2
theorem F_a303 {h : Hp} (w : WF h) : okF h 303 0 = true := (wf_sh w (n := 32) (by decide +kernel)).1
theorem W_a303 {h : Hp} (w : WF h) : okW h 303 0 = true := (wf_sh w (n := 32) (by decide +kernel)).2.1
theorem L_a303 {h : Hp} (w : WF h) : len h 303 = 32 := (wf_sh w (k := 0) (by decide +kernel)).2.2
theorem F_a304 {h : Hp} (w : WF h) : okF h 304 0 = true := (wf_sh w (n := 32) (by decide +kernel)).1
theorem W_a304 {h : Hp} (w : WF h) : okW h 304 0 = true := (wf_sh w (n := 32) (by decide +kernel)).2.1
theorem L_a304 {h : Hp} (w : WF h) : len h 304 = 32 := (wf_sh w (k := 0) (by decide +kernel)).2.2
theorem F_a305 {h : Hp} (w : WF h) : okF h 305 0 = true := (wf_sh w (n := 32) (by decide +kernel)).1
theorem W_a305 {h : Hp} (w : WF h) : okW h 305 0 = true := (wf_sh w (n := 32) (by decide +kernel)).2.1
theorem L_a305 {h : Hp} (w : WF h) : len h 305 = 32 := (wf_sh w (k := 0) (by decide +kernel)).2.2
theorem F_a306 {h : Hp} (w : WF h) : okF h 306 0 = true := (wf_sh w (n := 32) (by decide +kernel)).1
theorem W_a306 {h : Hp} (w : WF h) : okW h 306 0 = true := (wf_sh w (n := 32) (by decide +kernel)).2.1
theorem L_a306 {h : Hp} (w : WF h) : len h 306 = 32 := (wf_sh w (k := 0) (by decide +kernel)).2.2
theorem F_a307 {h : Hp} (w : WF h) : okF h 307 0 = true := (wf_sh w (n := 10) (by decide +kernel)).1
theorem W_a307 {h : Hp} (w : WF h) : okW h 307 0 = true := (wf_sh w (n := 10) (by decide +kernel)).2.1
theorem L_a307 {h : Hp} (w : WF h) : len h 307 = 10 := (wf_sh w (k := 0) (by decide +kernel)).2.2
theorem F_a308 {h : Hp} (w : WF h) : okF h 308 28 = true := (wf_sh w (n := 6) (by decide +kernel)).1
theorem W_a308 {h : Hp} (w : WF h) : okW h 308 28 = true := (wf_sh w (n := 6) (by decide +kernel)).2.1
theorem F_a309 {h : Hp} (w : WF h) : okF h 309 0 = true := (wf_sh w (n := 24) (by decide +kernel)).1
theorem W_a309 {h : Hp} (w : WF h) : okW h 309 0 = true := (wf_sh w (n := 24) (by decide +kernel)).2.1
theorem L_a309 {h : Hp} (w : WF h) : len h 309 = 24 := (wf_sh w (k := 0) (by decide +kernel)).2.2
theorem F_a310 {h : Hp} (w : WF h) : okF h 310 0 = true := (wf_sh w (n := 24) (by decide +kernel)).1
theorem W_a310 {h : Hp} (w : WF h) : okW h 310 0 = true := (wf_sh w (n := 24) (by decide +kernel)).2.1
theorem L_a310 {h : Hp} (w : WF h) : len h 310 = 24 := (wf_sh w (k := 0) (by decide +kernel)).2.2
theorem F_a311 {h : Hp} (w : WF h) : okF h 311 31 = true := (wf_sh w (n := 73) (by decide +kernel)).1
theorem W_a311 {h : Hp} (w : WF h) : okW h 311 31 = true := (wf_sh w (n := 73) (by decide +kernel)).2.1
theorem F_a312 {h : Hp} (w : WF h) : okF h 312 0 = true := (wf_sh w (n := 700) (by decide +kernel)).1
theorem W_a312 {h : Hp} (w : WF h) : okW h 312 0 = true := (wf_sh w (n := 700) (by decide +kernel)).2.1
theorem L_a312 {h : Hp} (w : WF h) : len h 312 = 700 := (wf_sh w (k := 0) (by decide +kernel)).2.2
theorem F_a313 {h : Hp} (w : WF h) : okF h 313 0 = true := (wf_sh w (n := 14) (by decide +kernel)).1
theorem W_a313 {h : Hp} (w : WF h) : okW h 313 0 = true := (wf_sh w (n := 14) (by decide +kernel)).2.1
theorem L_a313 {h : Hp} (w : WF h) : len h 313 = 14 := (wf_sh w (k := 0) (by decide +kernel)).2.2
theorem F_a314 {h : Hp} (w : WF h) : okF h 314 0 = true := (wf_sh w (n := 10) (by decide +kernel)).1
theorem W_a314 {h : Hp} (w : WF h) : okW h 314 0 = true := (wf_sh w (n := 10) (by decide +kernel)).2.1
theorem L_a314 {h : Hp} (w : WF h) : len h 314 = 10 := (wf_sh w (k := 0) (by decide +kernel)).2.2
theorem F_a315 {h : Hp} (w : WF h) : okF h 315 0 = true := (wf_sh w (n := 10) (by decide +kernel)).1
theorem W_a315 {h : Hp} (w : WF h) : okW h 315 0 = true := (wf_sh w (n := 10) (by decide +kernel)).2.1
theorem L_a315 {h : Hp} (w : WF h) : len h 315 = 10 := (wf_sh w (k := 0) (by decide +kernel)).2.2
theorem F_a316 {h : Hp} (w : WF h) : okF h 316 0 = true := (wf_sh w (n := 10) (by decide +kernel)).1
theorem W_a316 {h : Hp} (w : WF h) : okW h 316 0 = true := (wf_sh w (n := 10) (by decide +kernel)).2.1
theorem L_a316 {h : Hp} (w : WF h) : len h 316 = 10 := (wf_sh w (k := 0) (by decide +kernel)).2.2
theorem F_a317 {h : Hp} (w : WF h) : okF h 317 0 = true := (wf_sh w (n := 10) (by decide +kernel)).1
theorem W_a317 {h : Hp} (w : WF h) : okW h 317 0 = true := (wf_sh w (n := 10) (by decide +kernel)).2.1
theorem L_a317 {h : Hp} (w : WF h) : len h 317 = 10 := (wf_sh w (k := 0) (by decide +kernel)).2.2
theorem F_a318 {h : Hp} (w : WF h) : okF h 318 0 = true := (wf_sh w (n := 10) (by decide +kernel)).1
theorem W_a318 {h : Hp} (w : WF h) : okW h 318 0 = true := (wf_sh w (n := 10) (by decide +kernel)).2.1
theorem L_a318 {h : Hp} (w : WF h) : len h 318 = 10 := (wf_sh w (k := 0) (by decide +kernel)).2.2
theorem F_a319 {h : Hp} (w : WF h) : okF h 319 0 = true := (wf_sh w (n := 10) (by decide +kernel)).1
theorem W_a319 {h : Hp} (w : WF h) : okW h 319 0 = true := (wf_sh w (n := 10) (by decide +kernel)).2.1
theorem L_a319 {h : Hp} (w : WF h) : len h 319 = 10 := (wf_sh w (k := 0) (by decide +kernel)).2.2
theorem F_a320 {h : Hp} (w : WF h) : okF h 320 0 = true := (wf_sh w (n := 10) (by decide +kernel)).1
theorem W_a320 {h : Hp} (w : WF h) : okW h 320 0 = true := (wf_sh w (n := 10) (by decide +kernel)).2.1
theorem L_a320 {h : Hp} (w : WF h) : len h 320 = 10 := (wf_sh w (k := 0) (by decide +kernel)).2.2
theorem F_a321 {h : Hp} (w : WF h) : okF h 321 0 = true := (wf_sh w (n := 10) (by decide +kernel)).1
theorem W_a321 {h : Hp} (w : WF h) : okW h 321 0 = true := (wf_sh w (n := 10) (by decide +kernel)).2.1
theorem L_a321 {h : Hp} (w : WF h) : len h 321 = 10 := (wf_sh w (k := 0) (by decide +kernel)).2.2
theorem F_a322 {h : Hp} (w : WF h) : okF h 322 0 = true := (wf_sh w (n := 20) (by decide +kernel)).1
theorem W_a322 {h : Hp} (w : WF h) : okW h 322 0 = true := (wf_sh w (n := 20) (by decide +kernel)).2.1
theorem L_a322 {h : Hp} (w : WF h) : len h 322 = 20 := (wf_sh w (k := 0) (by decide +kernel)).2.2
theorem F_a323 {h : Hp} (w : WF h) : okF h 323 0 = true := (wf_sh w (n := 20) (by decide +kernel)).1
theorem W_a323 {h : Hp} (w : WF h) : okW h 323 0 = true := (wf_sh w (n := 20) (by decide +kernel)).2.1
theorem L_a323 {h : Hp} (w : WF h) : len h 323 = 20 := (wf_sh w (k := 0) (by decide +kernel)).2.2
theorem F_a324 {h : Hp} (w : WF h) : okF h 324 0 = true := (wf_sh w (n := 20) (by decide +kernel)).1
theorem W_a324 {h : Hp} (w : WF h) : okW h 324 0 = true := (wf_sh w (n := 20) (by decide +kernel)).2.1
theorem L_a324 {h : Hp} (w : WF h) : len h 324 = 20 := (wf_sh w (k := 0) (by decide +kernel)).2.2
theorem F_a325 {h : Hp} (w : WF h) : okF h 325 0 = true := (wf_sh w (n := 6) (by decide +kernel)).1
theorem W_a325 {h : Hp} (w : WF h) : okW h 325 0 = true := (wf_sh w (n := 6) (by decide +kernel)).2.1
theorem L_a325 {h : Hp} (w : WF h) : len h 325 = 6 := (wf_sh w (k := 0) (by decide +kernel)).2.2
theorem F_a326 {h : Hp} (w : WF h) : okF h 326 0 = true := (wf_sh w (n := 6) (by decide +kernel)).1
theorem W_a326 {h : Hp} (w : WF h) : okW h 326 0 = true := (wf_sh w (n := 6) (by decide +kernel)).2.1
theorem L_a326 {h : Hp} (w : WF h) : len h 326 = 6 := (wf_sh w (k := 0) (by decide +kernel)).2.2
theorem F_a327 {h : Hp} (w : WF h) : okF h 327 0 = true := (wf_sh w (n := 6) (by decide +kernel)).1
theorem W_a327 {h : Hp} (w : WF h) : okW h 327 0 = true := (wf_sh w (n := 6) (by decide +kernel)).2.1
theorem L_a327 {h : Hp} (w : WF h) : len h 327 = 6 := (wf_sh w (k := 0) (by decide +kernel)).2.2
theorem F_a328 {h : Hp} (w : WF h) : okF h 328 0 = true := (wf_sh w (n := 24) (by decide +kernel)).1
theorem W_a328 {h : Hp} (w : WF h) : okW h 328 0 = true := (wf_sh w (n := 24) (by decide +kernel)).2.1
theorem L_a328 {h : Hp} (w : WF h) : len h 328 = 24 := (wf_sh w (k := 0) (by decide +kernel)).2.2
theorem F_a329 {h : Hp} (w : WF h) : okF h 329 0 = true := (wf_sh w (n := 6) (by decide +kernel)).1
theorem W_a329 {h : Hp} (w : WF h) : okW h 329 0 = true := (wf_sh w (n := 6) (by decide +kernel)).2.1
theorem L_a329 {h : Hp} (w : WF h) : len h 329 = 6 := (wf_sh w (k := 0) (by decide +kernel)).2.2
theorem F_a330 {h : Hp} (w : WF h) : okF h 330 0 = true := (wf_sh w (n := 6) (by decide +kernel)).1
theorem W_a330 {h : Hp} (w : WF h) : okW h 330 0 = true := (wf_sh w (n := 6) (by decide +kernel)).2.1
theorem L_a330 {h : Hp} (w : WF h) : len h 330 = 6 := (wf_sh w (k := 0) (by decide +kernel)).2.2
theorem F_a331 {h : Hp} (w : WF h) : okF h 331 0 = true := (wf_sh w (n := 128) (by decide +kernel)).1
theorem W_a331 {h : Hp} (w : WF h) : okW h 331 0 = true := (wf_sh w (n := 128) (by decide +kernel)).2.1
theorem L_a331 {h : Hp} (w : WF h) : len h 331 = 128 := (wf_sh w (k := 0) (by decide +kernel)).2.2
theorem F_a332 {h : Hp} (w : WF h) : okF h 332 0 = true := (wf_sh w (n := 128) (by decide +kernel)).1
theorem W_a332 {h : Hp} (w : WF h) : okW h 332 0 = true := (wf_sh w (n := 128) (by decide +kernel)).2.1
theorem L_a332 {h : Hp} (w : WF h) : len h 332 = 128 := (wf_sh w (k := 0) (by decide +kernel)).2.2
theorem F_a333 {h : Hp} (w : WF h) : okF h 333 0 = true := (wf_sh w (n := 23) (by decide +kernel)).1
theorem W_a333 {h : Hp} (w : WF h) : okW h 333 0 = true := (wf_sh w (n := 23) (by decide +kernel)).2.1
theorem L_a333 {h : Hp} (w : WF h) : len h 333 = 23 := (wf_sh w (k := 0) (by decide +kernel)).2.2
theorem F_a334 {h : Hp} (w : WF h) : okF h 334 0 = true := (wf_sh w (n := 23) (by decide +kernel)).1
theorem W_a334 {h : Hp} (w : WF h) : okW h 334 0 = true := (wf_sh w (n := 23) (by decide +kernel)).2.1
theorem L_a334 {h : Hp} (w : WF h) : len h 334 = 23 := (wf_sh w (k := 0) (by decide +kernel)).2.2
theorem F_a335 {h : Hp} (w : WF h) : okF h 335 0 = true := (wf_sh w (n := 23) (by decide +kernel)).1
theorem W_a335 {h : Hp} (w : WF h) : okW h 335 0 = true := (wf_sh w (n := 23) (by decide +kernel)).2.1
theorem L_a335 {h : Hp} (w : WF h) : len h 335 = 23 := (wf_sh w (k := 0) (by decide +kernel)).2.2
theorem F_a336 {h : Hp} (w : WF h) : okF h 336 0 = true := (wf_sh w (n := 23) (by decide +kernel)).1
theorem W_a336 {h : Hp} (w : WF h) : okW h 336 0 = true := (wf_sh w (n := 23) (by decide +kernel)).2.1
theorem L_a336 {h : Hp} (w : WF h) : len h 336 = 23 := (wf_sh w (k := 0) (by decide +kernel)).2.2
theorem F_a337 {h : Hp} (w : WF h) : okF h 337 0 = true := (wf_sh w (n := 23) (by decide +kernel)).1
theorem W_a337 {h : Hp} (w : WF h) : okW h 337 0 = true := (wf_sh w (n := 23) (by decide +kernel)).2.1
theorem L_a337 {h : Hp} (w : WF h) : len h 337 = 23 := (wf_sh w (k := 0) (by decide +kernel)).2.2
theorem F_a338 {h : Hp} (w : WF h) : okF h 338 0 = true := (wf_sh w (n := 115) (by decide +kernel)).1
theorem W_a338 {h : Hp} (w : WF h) : okW h 338 0 = true := (wf_sh w (n := 115) (by decide +kernel)).2.1
theorem L_a338 {h : Hp} (w : WF h) : len h 338 = 115 := (wf_sh w (k := 0) (by decide +kernel)).2.2
theorem F_a339 {h : Hp} (w : WF h) : okF h 339 0 = true := (wf_sh w (n := 230) (by decide +kernel)).1
theorem W_a339 {h : Hp} (w : WF h) : okW h 339 0 = true := (wf_sh w (n := 230) (by decide +kernel)).2.1
theorem L_a339 {h : Hp} (w : WF h) : len h 339 = 230 := (wf_sh w (k := 0) (by decide +kernel)).2.2
theorem F_a340 {h : Hp} (w : WF h) : okF h 340 0 = true := (wf_sh w (n := 230) (by decide +kernel)).1
theorem W_a340 {h : Hp} (w : WF h) : okW h 340 0 = true := (wf_sh w (n := 230) (by decide +kernel)).2.1
theorem L_a340 {h : Hp} (w : WF h) : len h 340 = 230 := (wf_sh w (k := 0) (by decide +kernel)).2.2
theorem F_a341 {h : Hp} (w : WF h) : okF h 341 0 = true := (wf_sh w (n := 230) (by decide +kernel)).1
theorem W_a341 {h : Hp} (w : WF h) : okW h 341 0 = true := (wf_sh w (n := 230) (by decide +kernel)).2.1
theorem L_a341 {h : Hp} (w : WF h) : len h 341 = 230 := (wf_sh w (k := 0) (by decide +kernel)).2.2
theorem F_a342 {h : Hp} (w : WF h) : okF h 342 0 = true := (wf_sh w (n := 23) (by decide +kernel)).1
theorem W_a342 {h : Hp} (w : WF h) : okW h 342 0 = true := (wf_sh w (n := 23) (by decide +kernel)).2.1
theorem L_a342 {h : Hp} (w : WF h) : len h 342 = 23 := (wf_sh w (k := 0) (by decide +kernel)).2.2
theorem F_a343 {h : Hp} (w : WF h) : okF h 343 0 = true := (wf_sh w (n := 920) (by decide +kernel)).1
theorem W_a343 {h : Hp} (w : WF h) : okW h 343 0 = true := (wf_sh w (n := 920) (by decide +kernel)).2.1
theorem L_a343 {h : Hp} (w : WF h) : len h 343 = 920 := (wf_sh w (k := 0) (by decide +kernel)).2.2
theorem F_a344 {h : Hp} (w : WF h) : okF h 344 0 = true := (wf_sh w (n := 920) (by decide +kernel)).1
theorem W_a344 {h : Hp} (w : WF h) : okW h 344 0 = true := (wf_sh w (n := 920) (by decide +kernel)).2.1
theorem L_a344 {h : Hp} (w : WF h) : len h 344 = 920 := (wf_sh w (k := 0) (by decide +kernel)).2.2
theorem F_a345 {h : Hp} (w : WF h) : okF h 345 0 = true := (wf_sh w (n := 300) (by decide +kernel)).1
theorem W_a345 {h : Hp} (w : WF h) : okW h 345 0 = true := (wf_sh w (n := 300) (by decide +kernel)).2.1
theorem L_a345 {h : Hp} (w : WF h) : len h 345 = 300 := (wf_sh w (k := 0) (by decide +kernel)).2.2
theorem F_a346 {h : Hp} (w : WF h) : okF h 346 0 = true := (wf_sh w (n := 300) (by decide +kernel)).1
theorem W_a346 {h : Hp} (w : WF h) : okW h 346 0 = true := (wf_sh w (n := 300) (by decide +kernel)).2.1
theorem L_a346 {h : Hp} (w : WF h) : len h 346 = 300 := (wf_sh w (k := 0) (by decide +kernel)).2.2
theorem F_a347 {h : Hp} (w : WF h) : okF h 347 0 = true := (wf_sh w (n := 300) (by decide +kernel)).1
theorem W_a347 {h : Hp} (w : WF h) : okW h 347 0 = true := (wf_sh w (n := 300) (by decide +kernel)).2.1
theorem L_a347 {h : Hp} (w : WF h) : len h 347 = 300 := (wf_sh w (k := 0) (by decide +kernel)).2.2
theorem F_a348 {h : Hp} (w : WF h) : okF h 348 1 = true := (wf_sh w (n := 7) (by decide +kernel)).1
theorem W_a348 {h : Hp} (w : WF h) : okW h 348 1 = true := (wf_sh w (n := 7) (by decide +kernel)).2.1
theorem L_a348 {h : Hp} (w : WF h) : len h 348 = 7 := (wf_sh w (k := 1) (by decide +kernel)).2.2
theorem F_a349 {h : Hp} (w : WF h) : okF h 349 1 = true := (wf_sh w (n := 64) (by decide +kernel)).1
theorem W_a349 {h : Hp} (w : WF h) : okW h 349 1 = true := (wf_sh w (n := 64) (by decide +kernel)).2.1
theorem L_a349 {h : Hp} (w : WF h) : len h 349 = 64 := (wf_sh w (k := 1) (by decide +kernel)).2.2
theorem F_a350 {h : Hp} (w : WF h) : okF h 350 0 = true := (wf_sh w (n := 10) (by decide +kernel)).1
theorem W_a350 {h : Hp} (w : WF h) : okW h 350 0 = true := (wf_sh w (n := 10) (by decide +kernel)).2.1
theorem L_a350 {h : Hp} (w : WF h) : len h 350 = 10 := (wf_sh w (k := 0) (by decide +kernel)).2.2
theorem F_a351 {h : Hp} (w : WF h) : okF h 351 0 = true := (wf_sh w (n := 10) (by decide +kernel)).1
theorem W_a351 {h : Hp} (w : WF h) : okW h 351 0 = true := (wf_sh w (n := 10) (by decide +kernel)).2.1
theorem L_a351 {h : Hp} (w : WF h) : len h 351 = 10 := (wf_sh w (k := 0) (by decide +kernel)).2.2
theorem F_a352 {h : Hp} (w : WF h) : okF h 352 0 = true := (wf_sh w (n := 24) (by decide +kernel)).1
theorem W_a352 {h : Hp} (w : WF h) : okW h 352 0 = true := (wf_sh w (n := 24) (by decide +kernel)).2.1
theorem L_a352 {h : Hp} (w : WF h) : len h 352 = 24 := (wf_sh w (k := 0) (by decide +kernel)).2.2
theorem F_a353 {h : Hp} (w : WF h) : okF h 353 2 = true := (wf_sh w (n := 24) (by decide +kernel)).1
theorem W_a353 {h : Hp} (w : WF h) : okW h 353 2 = true := (wf_sh w (n := 24) (by decide +kernel)).2.1
theorem L_a353 {h : Hp} (w : WF h) : len h 353 = 24 := (wf_sh w (k := 2) (by decide +kernel)).2.2
theorem F_a354 {h : Hp} (w : WF h) : okF h 354 0 = true := (wf_sh w (n := 24) (by decide +kernel)).1
theorem W_a354 {h : Hp} (w : WF h) : okW h 354 0 = true := (wf_sh w (n := 24) (by decide +kernel)).2.1
theorem L_a354 {h : Hp} (w : WF h) : len h 354 = 24 := (wf_sh w (k := 0) (by decide +kernel)).2.2
theorem F_a355 {h : Hp} (w : WF h) : okF h 355 2 = true := (wf_sh w (n := 24) (by decide +kernel)).1
theorem W_a355 {h : Hp} (w : WF h) : okW h 355 2 = true := (wf_sh w (n := 24) (by decide +kernel)).2.1
theorem L_a355 {h : Hp} (w : WF h) : len h 355 = 24 := (wf_sh w (k := 2) (by decide +kernel)).2.2
theorem F_a356 {h : Hp} (w : WF h) : okF h 356 1 = true := (wf_sh w (n := 1) (by decide +kernel)).1
theorem W_a356 {h : Hp} (w : WF h) : okW h 356 1 = true := (wf_sh w (n := 1) (by decide +kernel)).2.1
theorem L_a356 {h : Hp} (w : WF h) : len h 356 = 1 := (wf_sh w (k := 1) (by decide +kernel)).2.2
theorem P_1_0 {h : Hp} (w : WF h) : ld h 1 0 = 2 := wf_pt w (by decide +kernel)
theorem P_1_2 {h : Hp} (w : WF h) : ld h 1 2 = 3 := wf_pt w (by decide +kernel)
theorem P_3_0 {h : Hp} (w : WF h) : ld h 3 0 = 4 := wf_pt w (by decide +kernel)
theorem P_3_2 {h : Hp} (w : WF h) : ld h 3 2 = 36 := wf_pt w (by decide +kernel)
theorem P_97_6 {h : Hp} (w : WF h) : ld h 97 6 = 98 := wf_pt w (by decide +kernel)
theorem P_97_7 {h : Hp} (w : WF h) : ld h 97 7 = 99 := wf_pt w (by decide +kernel)
theorem P_97_8 {h : Hp} (w : WF h) : ld h 97 8 = 100 := wf_pt w (by decide +kernel)
theorem P_97_9 {h : Hp} (w : WF h) : ld h 97 9 = 101 := wf_pt w (by decide +kernel)
theorem P_97_11 {h : Hp} (w : WF h) : ld h 97 11 = 102 := wf_pt w (by decide +kernel)
theorem P_97_12 {h : Hp} (w : WF h) : ld h 97 12 = 103 := wf_pt w (by decide +kernel)
theorem P_97_13 {h : Hp} (w : WF h) : ld h 97 13 = 104 := wf_pt w (by decide +kernel)
theorem P_105_6 {h : Hp} (w : WF h) : ld h 105 6 = 106 := wf_pt w (by decide +kernel)
theorem P_105_7 {h : Hp} (w : WF h) : ld h 105 7 = 107 := wf_pt w (by decide +kernel)
theorem P_105_8 {h : Hp} (w : WF h) : ld h 105 8 = 108 := wf_pt w (by decide +kernel)
theorem P_105_9 {h : Hp} (w : WF h) : ld h 105 9 = 109 := wf_pt w (by decide +kernel)
theorem P_105_11 {h : Hp} (w : WF h) : ld h 105 11 = 110 := wf_pt w (by decide +kernel)
theorem P_105_12 {h : Hp} (w : WF h) : ld h 105 12 = 111 := wf_pt w (by decide +kernel)
theorem P_105_13 {h : Hp} (w : WF h) : ld h 105 13 = 112 := wf_pt w (by decide +kernel)
theorem P_113_6 {h : Hp} (w : WF h) : ld h 113 6 = 114 := wf_pt w (by decide +kernel)
theorem P_113_7 {h : Hp} (w : WF h) : ld h 113 7 = 115 := wf_pt w (by decide +kernel)
theorem P_113_8 {h : Hp} (w : WF h) : ld h 113 8 = 116 := wf_pt w (by decide +kernel)
theorem P_113_9 {h : Hp} (w : WF h) : ld h 113 9 = 117 := wf_pt w (by decide +kernel)
theorem P_113_11 {h : Hp} (w : WF h) : ld h 113 11 = 118 := wf_pt w (by decide +kernel)
theorem P_113_12 {h : Hp} (w : WF h) : ld h 113 12 = 119 := wf_pt w (by decide +kernel)
theorem P_113_13 {h : Hp} (w : WF h) : ld h 113 13 = 120 := wf_pt w (by decide +kernel)
theorem P_1_5 {h : Hp} (w : WF h) : ld h 1 5 = 97 := wf_pt w (by decide +kernel)
theorem P_1_6 {h : Hp} (w : WF h) : ld h 1 6 = 105 := wf_pt w (by decide +kernel)
theorem P_1_7 {h : Hp} (w : WF h) : ld h 1 7 = 113 := wf_pt w (by decide +kernel)
theorem P_1_9 {h : Hp} (w : WF h) : ld h 1 9 = 121 := wf_pt w (by decide +kernel)
theorem P_121_0 {h : Hp} (w : WF h) : ld h 121 0 = 122 := wf_pt w (by decide +kernel)
theorem P_1_10 {h : Hp} (w : WF h) : ld h 1 10 = 283 := wf_pt w (by decide +kernel)
theorem P_283_6 {h : Hp} (w : WF h) : ld h 283 6 = 284 := wf_pt w (by decide +kernel)
theorem P_283_7 {h : Hp} (w : WF h) : ld h 283 7 = 285 := wf_pt w (by decide +kernel)
theorem P_283_8 {h : Hp} (w : WF h) : ld h 283 8 = 286 := wf_pt w (by decide +kernel)
theorem P_1_11 {h : Hp} (w : WF h) : ld h 1 11 = 287 := wf_pt w (by decide +kernel)
theorem P_287_0 {h : Hp} (w : WF h) : ld h 287 0 = 288 := wf_pt w (by decide +kernel)
theorem P_287_1 {h : Hp} (w : WF h) : ld h 287 1 = 289 := wf_pt w (by decide +kernel)
theorem P_287_2 {h : Hp} (w : WF h) : ld h 287 2 = 290 := wf_pt w (by decide +kernel)
theorem P_1_12 {h : Hp} (w : WF h) : ld h 1 12 = 291 := wf_pt w (by decide +kernel)
theorem P_291_0 {h : Hp} (w : WF h) : ld h 291 0 = 292 := wf_pt w (by decide +kernel)
theorem P_1_13 {h : Hp} (w : WF h) : ld h 1 13 = 293 := wf_pt w (by decide +kernel)
theorem P_293_0 {h : Hp} (w : WF h) : ld h 293 0 = 294 := wf_pt w (by decide +kernel)
theorem P_293_1 {h : Hp} (w : WF h) : ld h 293 1 = 295 := wf_pt w (by decide +kernel)
theorem P_295_0 {h : Hp} (w : WF h) : ld h 295 0 = 296 := wf_pt w (by decide +kernel)
theorem P_295_1 {h : Hp} (w : WF h) : ld h 295 1 = 297 := wf_pt w (by decide +kernel)
theorem P_295_2 {h : Hp} (w : WF h) : ld h 295 2 = 298 := wf_pt w (by decide +kernel)
theorem P_295_3 {h : Hp} (w : WF h) : ld h 295 3 = 299 := wf_pt w (by decide +kernel)
theorem P_295_4 {h : Hp} (w : WF h) : ld h 295 4 = 300 := wf_pt w (by decide +kernel)
theorem P_295_5 {h : Hp} (w : WF h) : ld h 295 5 = 301 := wf_pt w (by decide +kernel)
theorem P_295_6 {h : Hp} (w : WF h) : ld h 295 6 = 302 := wf_pt w (by decide +kernel)
theorem P_295_7 {h : Hp} (w : WF h) : ld h 295 7 = 303 := wf_pt w (by decide +kernel)
theorem P_295_8 {h : Hp} (w : WF h) : ld h 295 8 = 304 := wf_pt w (by decide +kernel)
theorem P_295_9 {h : Hp} (w : WF h) : ld h 295 9 = 305 := wf_pt w (by decide +kernel)
theorem P_295_10 {h : Hp} (w : WF h) : ld h 295 10 = 306 := wf_pt w (by decide +kernel)
theorem P_293_2 {h : Hp} (w : WF h) : ld h 293 2 = 307 := wf_pt w (by decide +kernel)
theorem P_1_14 {h : Hp} (w : WF h) : ld h 1 14 = 308 := wf_pt w (by decide +kernel)
theorem P_308_0 {h : Hp} (w : WF h) : ld h 308 0 = 309 := wf_pt w (by decide +kernel)
theorem P_308_1 {h : Hp} (w : WF h) : ld h 308 1 = 310 := wf_pt w (by decide +kernel)
theorem P_311_1 {h : Hp} (w : WF h) : ld h 311 1 = 312 := wf_pt w (by decide +kernel)
theorem P_311_3 {h : Hp} (w : WF h) : ld h 311 3 = 313 := wf_pt w (by decide +kernel)
theorem P_311_4 {h : Hp} (w : WF h) : ld h 311 4 = 314 := wf_pt w (by decide +kernel)
theorem P_311_5 {h : Hp} (w : WF h) : ld h 311 5 = 315 := wf_pt w (by decide +kernel)
theorem P_311_6 {h : Hp} (w : WF h) : ld h 311 6 = 316 := wf_pt w (by decide +kernel)
theorem P_311_7 {h : Hp} (w : WF h) : ld h 311 7 = 317 := wf_pt w (by decide +kernel)
theorem P_311_8 {h : Hp} (w : WF h) : ld h 311 8 = 318 := wf_pt w (by decide +kernel)
theorem P_311_9 {h : Hp} (w : WF h) : ld h 311 9 = 319 := wf_pt w (by decide +kernel)
theorem P_311_10 {h : Hp} (w : WF h) : ld h 311 10 = 320 := wf_pt w (by decide +kernel)
theorem P_311_11 {h : Hp} (w : WF h) : ld h 311 11 = 321 := wf_pt w (by decide +kernel)
theorem P_311_12 {h : Hp} (w : WF h) : ld h 311 12 = 322 := wf_pt w (by decide +kernel)
theorem P_311_13 {h : Hp} (w : WF h) : ld h 311 13 = 323 := wf_pt w (by decide +kernel)
theorem P_311_14 {h : Hp} (w : WF h) : ld h 311 14 = 324 := wf_pt w (by decide +kernel)
theorem P_311_15 {h : Hp} (w : WF h) : ld h 311 15 = 325 := wf_pt w (by decide +kernel)
theorem P_311_16 {h : Hp} (w : WF h) : ld h 311 16 = 326 := wf_pt w (by decide +kernel)
theorem P_311_17 {h : Hp} (w : WF h) : ld h 311 17 = 327 := wf_pt w (by decide +kernel)
theorem P_311_18 {h : Hp} (w : WF h) : ld h 311 18 = 328 := wf_pt w (by decide +kernel)
theorem P_311_19 {h : Hp} (w : WF h) : ld h 311 19 = 329 := wf_pt w (by decide +kernel)
theorem P_311_20 {h : Hp} (w : WF h) : ld h 311 20 = 330 := wf_pt w (by decide +kernel)
theorem P_311_21 {h : Hp} (w : WF h) : ld h 311 21 = 331 := wf_pt w (by decide +kernel)
theorem P_311_22 {h : Hp} (w : WF h) : ld h 311 22 = 332 := wf_pt w (by decide +kernel)
theorem P_311_36 {h : Hp} (w : WF h) : ld h 311 36 = 333 := wf_pt w (by decide +kernel)
theorem P_311_37 {h : Hp} (w : WF h) : ld h 311 37 = 334 := wf_pt w (by decide +kernel)
theorem P_311_38 {h : Hp} (w : WF h) : ld h 311 38 = 335 := wf_pt w (by decide +kernel)
theorem P_311_39 {h : Hp} (w : WF h) : ld h 311 39 = 336 := wf_pt w (by decide +kernel)
theorem P_311_40 {h : Hp} (w : WF h) : ld h 311 40 = 337 := wf_pt w (by decide +kernel)
theorem P_311_41 {h : Hp} (w : WF h) : ld h 311 41 = 338 := wf_pt w (by decide +kernel)
theorem P_311_42 {h : Hp} (w : WF h) : ld h 311 42 = 339 := wf_pt w (by decide +kernel)
theorem P_311_43 {h : Hp} (w : WF h) : ld h 311 43 = 340 := wf_pt w (by decide +kernel)
theorem P_311_44 {h : Hp} (w : WF h) : ld h 311 44 = 341 := wf_pt w (by decide +kernel)
theorem P_311_45 {h : Hp} (w : WF h) : ld h 311 45 = 342 := wf_pt w (by decide +kernel)
theorem P_311_46 {h : Hp} (w : WF h) : ld h 311 46 = 343 := wf_pt w (by decide +kernel)
theorem P_311_47 {h : Hp} (w : WF h) : ld h 311 47 = 344 := wf_pt w (by decide +kernel)
theorem P_311_48 {h : Hp} (w : WF h) : ld h 311 48 = 345 := wf_pt w (by decide +kernel)
theorem P_311_49 {h : Hp} (w : WF h) : ld h 311 49 = 346 := wf_pt w (by decide +kernel)
theorem P_311_50 {h : Hp} (w : WF h) : ld h 311 50 = 347 := wf_pt w (by decide +kernel)
theorem P_311_55 {h : Hp} (w : WF h) : ld h 311 55 = 348 := wf_pt w (by decide +kernel)
theorem P_311_56 {h : Hp} (w : WF h) : ld h 311 56 = 349 := wf_pt w (by decide +kernel)
theorem P_311_64 {h : Hp} (w : WF h) : ld h 311 64 = 350 := wf_pt w (by decide +kernel)
theorem P_311_65 {h : Hp} (w : WF h) : ld h 311 65 = 351 := wf_pt w (by decide +kernel)
theorem P_311_69 {h : Hp} (w : WF h) : ld h 311 69 = 352 := wf_pt w (by decide +kernel)
theorem P_311_70 {h : Hp} (w : WF h) : ld h 311 70 = 353 := wf_pt w (by decide +kernel)
theorem P_311_71 {h : Hp} (w : WF h) : ld h 311 71 = 354 := wf_pt w (by decide +kernel)
theorem P_311_72 {h : Hp} (w : WF h) : ld h 311 72 = 355 := wf_pt w (by decide +kernel)
theorem sfq0 : STL.all (fun s => shQ (s + 0) 29 14) = true := by decide +kernel
theorem sfF0 {h : Hp} (w : WF h) {s : Int} (hs : s ∈ STL) : okF h s 29 = true := (wf_sh w (n := 14) (by have := List.all_eq_true.mp sfq0 s hs; simpa using this)).1
theorem sfW0 {h : Hp} (w : WF h) {s : Int} (hs : s ∈ STL) : okW h s 29 = true := (wf_sh w (n := 14) (by have := List.all_eq_true.mp sfq0 s hs; simpa using this)).2.1
theorem sfq1 : STL.all (fun s => shQ (s + 1) 0 5) = true := by decide +kernel
theorem sfF1 {h : Hp} (w : WF h) {s : Int} (hs : s ∈ STL) : okF h (s + 1) 0 = true := (wf_sh w (n := 5) (List.all_eq_true.mp sfq1 s hs)).1
theorem sfW1 {h : Hp} (w : WF h) {s : Int} (hs : s ∈ STL) : okW h (s + 1) 0 = true := (wf_sh w (n := 5) (List.all_eq_true.mp sfq1 s hs)).2.1
theorem sfL1 {h : Hp} (w : WF h) {s : Int} (hs : s ∈ STL) : len h (s + 1) = 5 := (wf_sh w (k := 0) (List.all_eq_true.mp sfq1 s hs)).2.2
theorem sfq2 : STL.all (fun s => shQ (s + 2) 0 10) = true := by decide +kernel
theorem sfF2 {h : Hp} (w : WF h) {s : Int} (hs : s ∈ STL) : okF h (s + 2) 0 = true := (wf_sh w (n := 10) (List.all_eq_true.mp sfq2 s hs)).1
theorem sfW2 {h : Hp} (w : WF h) {s : Int} (hs : s ∈ STL) : okW h (s + 2) 0 = true := (wf_sh w (n := 10) (List.all_eq_true.mp sfq2 s hs)).2.1
theorem sfL2 {h : Hp} (w : WF h) {s : Int} (hs : s ∈ STL) : len h (s + 2) = 10 := (wf_sh w (k := 0) (List.all_eq_true.mp sfq2 s hs)).2.2
theorem sfq3 : STL.all (fun s => shQ (s + 3) 0 10) = true := by decide +kernel
theorem sfF3 {h : Hp} (w : WF h) {s : Int} (hs : s ∈ STL) : okF h (s + 3) 0 = true := (wf_sh w (n := 10) (List.all_eq_true.mp sfq3 s hs)).1
theorem sfW3 {h : Hp} (w : WF h) {s : Int} (hs : s ∈ STL) : okW h (s + 3) 0 = true := (wf_sh w (n := 10) (List.all_eq_true.mp sfq3 s hs)).2.1
theorem sfL3 {h : Hp} (w : WF h) {s : Int} (hs : s ∈ STL) : len h (s + 3) = 10 := (wf_sh w (k := 0) (List.all_eq_true.mp sfq3 s hs)).2.2
theorem sfq4 : STL.all (fun s => shQ (s + 4) 0 10) = true := by decide +kernel
theorem sfF4 {h : Hp} (w : WF h) {s : Int} (hs : s ∈ STL) : okF h (s + 4) 0 = true := (wf_sh w (n := 10) (List.all_eq_true.mp sfq4 s hs)).1
theorem sfW4 {h : Hp} (w : WF h) {s : Int} (hs : s ∈ STL) : okW h (s + 4) 0 = true := (wf_sh w (n := 10) (List.all_eq_true.mp sfq4 s hs)).2.1
theorem sfL4 {h : Hp} (w : WF h) {s : Int} (hs : s ∈ STL) : len h (s + 4) = 10 := (wf_sh w (k := 0) (List.all_eq_true.mp sfq4 s hs)).2.2
theorem sfq5 : STL.all (fun s => shQ (s + 5) 0 40) = true := by decide +kernel
theorem sfF5 {h : Hp} (w : WF h) {s : Int} (hs : s ∈ STL) : okF h (s + 5) 0 = true := (wf_sh w (n := 40) (List.all_eq_true.mp sfq5 s hs)).1
theorem sfW5 {h : Hp} (w : WF h) {s : Int} (hs : s ∈ STL) : okW h (s + 5) 0 = true := (wf_sh w (n := 40) (List.all_eq_true.mp sfq5 s hs)).2.1
theorem sfL5 {h : Hp} (w : WF h) {s : Int} (hs : s ∈ STL) : len h (s + 5) = 40 := (wf_sh w (k := 0) (List.all_eq_true.mp sfq5 s hs)).2.2
theorem sfq6 : STL.all (fun s => shQ (s + 6) 0 40) = true := by decide +kernel
theorem sfF6 {h : Hp} (w : WF h) {s : Int} (hs : s ∈ STL) : okF h (s + 6) 0 = true := (wf_sh w (n := 40) (List.all_eq_true.mp sfq6 s hs)).1
theorem sfW6 {h : Hp} (w : WF h) {s : Int} (hs : s ∈ STL) : okW h (s + 6) 0 = true := (wf_sh w (n := 40) (List.all_eq_true.mp sfq6 s hs)).2.1
theorem sfL6 {h : Hp} (w : WF h) {s : Int} (hs : s ∈ STL) : len h (s + 6) = 40 := (wf_sh w (k := 0) (List.all_eq_true.mp sfq6 s hs)).2.2
theorem sfq7 : STL.all (fun s => shQ (s + 7) 0 7) = true := by decide +kernel
theorem sfF7 {h : Hp} (w : WF h) {s : Int} (hs : s ∈ STL) : okF h (s + 7) 0 = true := (wf_sh w (n := 7) (List.all_eq_true.mp sfq7 s hs)).1
theorem sfW7 {h : Hp} (w : WF h) {s : Int} (hs : s ∈ STL) : okW h (s + 7) 0 = true := (wf_sh w (n := 7) (List.all_eq_true.mp sfq7 s hs)).2.1
theorem sfL7 {h : Hp} (w : WF h) {s : Int} (hs : s ∈ STL) : len h (s + 7) = 7 := (wf_sh w (k := 0) (List.all_eq_true.mp sfq7 s hs)).2.2
theorem sfP6b : STL.all (fun s => decide ((s + 0, (6 : Int), s + 1) ∈ PTL)) = true := by decide +kernel
theorem sfP6 {h : Hp} (w : WF h) {s : Int} (hs : s ∈ STL) : ld h s 6 = s + 1 := wf_pt w (by have := of_decide_eq_true (List.all_eq_true.mp sfP6b s hs); simpa using this)
theorem sfP7b : STL.all (fun s => decide ((s + 0, (7 : Int), s + 2) ∈ PTL)) = true := by decide +kernel
theorem sfP7 {h : Hp} (w : WF h) {s : Int} (hs : s ∈ STL) : ld h s 7 = s + 2 := wf_pt w (by have := of_decide_eq_true (List.all_eq_true.mp sfP7b s hs); simpa using this)
theorem sfP8b : STL.all (fun s => decide ((s + 0, (8 : Int), s + 3) ∈ PTL)) = true := by decide +kernel
theorem sfP8 {h : Hp} (w : WF h) {s : Int} (hs : s ∈ STL) : ld h s 8 = s + 3 := wf_pt w (by have := of_decide_eq_true (List.all_eq_true.mp sfP8b s hs); simpa using this)
theorem sfP9b : STL.all (fun s => decide ((s + 0, (9 : Int), s + 4) ∈ PTL)) = true := by decide +kernel
theorem sfP9 {h : Hp} (w : WF h) {s : Int} (hs : s ∈ STL) : ld h s 9 = s + 4 := wf_pt w (by have := of_decide_eq_true (List.all_eq_true.mp sfP9b s hs); simpa using this)
theorem sfP11b : STL.all (fun s => decide ((s + 0, (11 : Int), s + 5) ∈ PTL)) = true := by decide +kernel
theorem sfP11 {h : Hp} (w : WF h) {s : Int} (hs : s ∈ STL) : ld h s 11 = s + 5 := wf_pt w (by have := of_decide_eq_true (List.all_eq_true.mp sfP11b s hs); simpa using this)
theorem sfP12b : STL.all (fun s => decide ((s + 0, (12 : Int), s + 6) ∈ PTL)) = true := by decide +kernel
theorem sfP12 {h : Hp} (w : WF h) {s : Int} (hs : s ∈ STL) : ld h s 12 = s + 6 := wf_pt w (by have := of_decide_eq_true (List.all_eq_true.mp sfP12b s hs); simpa using this)
theorem sfP13b : STL.all (fun s => decide ((s + 0, (13 : Int), s + 7) ∈ PTL)) = true := by decide +kernel
theorem sfP13 {h : Hp} (w : WF h) {s : Int} (hs : s ∈ STL) : ld h s 13 = s + 7 := wf_pt w (by have := of_decide_eq_true (List.all_eq_true.mp sfP13b s hs); simpa using this)
theorem bfq0 : BKL.all (fun s => shQ (s + 0) 21 20) = true := by decide +kernel
theorem bfF0 {h : Hp} (w : WF h) {s : Int} (hs : s ∈ BKL) : okF h s 21 = true := (wf_sh w (n := 20) (by have := List.all_eq_true.mp bfq0 s hs; simpa using this)).1
theorem bfW0 {h : Hp} (w : WF h) {s : Int} (hs : s ∈ BKL) : okW h s 21 = true := (wf_sh w (n := 20) (by have := List.all_eq_true.mp bfq0 s hs; simpa using this)).2.1
theorem bfq1 : BKL.all (fun s => shQ (s + 1) 0 5) = true := by decide +kernel
theorem bfF1 {h : Hp} (w : WF h) {s : Int} (hs : s ∈ BKL) : okF h (s + 1) 0 = true := (wf_sh w (n := 5) (List.all_eq_true.mp bfq1 s hs)).1
theorem bfW1 {h : Hp} (w : WF h) {s : Int} (hs : s ∈ BKL) : okW h (s + 1) 0 = true := (wf_sh w (n := 5) (List.all_eq_true.mp bfq1 s hs)).2.1
theorem bfL1 {h : Hp} (w : WF h) {s : Int} (hs : s ∈ BKL) : len h (s + 1) = 5 := (wf_sh w (k := 0) (List.all_eq_true.mp bfq1 s hs)).2.2
theorem bfq2 : BKL.all (fun s => shQ (s + 2) 0 5) = true := by decide +kernel
theorem bfF2 {h : Hp} (w : WF h) {s : Int} (hs : s ∈ BKL) : okF h (s + 2) 0 = true := (wf_sh w (n := 5) (List.all_eq_true.mp bfq2 s hs)).1
theorem bfW2 {h : Hp} (w : WF h) {s : Int} (hs : s ∈ BKL) : okW h (s + 2) 0 = true := (wf_sh w (n := 5) (List.all_eq_true.mp bfq2 s hs)).2.1
theorem bfL2 {h : Hp} (w : WF h) {s : Int} (hs : s ∈ BKL) : len h (s + 2) = 5 := (wf_sh w (k := 0) (List.all_eq_true.mp bfq2 s hs)).2.2
theorem bfq3 : BKL.all (fun s => shQ (s + 3) 0 5) = true := by decide +kernel
theorem bfF3 {h : Hp} (w : WF h) {s : Int} (hs : s ∈ BKL) : okF h (s + 3) 0 = true := (wf_sh w (n := 5) (List.all_eq_true.mp bfq3 s hs)).1
theorem bfW3 {h : Hp} (w : WF h) {s : Int} (hs : s ∈ BKL) : okW h (s + 3) 0 = true := (wf_sh w (n := 5) (List.all_eq_true.mp bfq3 s hs)).2.1
theorem bfL3 {h : Hp} (w : WF h) {s : Int} (hs : s ∈ BKL) : len h (s + 3) = 5 := (wf_sh w (k := 0) (List.all_eq_true.mp bfq3 s hs)).2.2
theorem bfq4 : BKL.all (fun s => shQ (s + 4) 0 5) = true := by decide +kernel
theorem bfF4 {h : Hp} (w : WF h) {s : Int} (hs : s ∈ BKL) : okF h (s + 4) 0 = true := (wf_sh w (n := 5) (List.all_eq_true.mp bfq4 s hs)).1
theorem bfW4 {h : Hp} (w : WF h) {s : Int} (hs : s ∈ BKL) : okW h (s + 4) 0 = true := (wf_sh w (n := 5) (List.all_eq_true.mp bfq4 s hs)).2.1
theorem bfL4 {h : Hp} (w : WF h) {s : Int} (hs : s ∈ BKL) : len h (s + 4) = 5 := (wf_sh w (k := 0) (List.all_eq_true.mp bfq4 s hs)).2.2
theorem bfq5 : BKL.all (fun s => shQ (s + 5) 0 5) = true := by decide +kernel
theorem bfF5 {h : Hp} (w : WF h) {s : Int} (hs : s ∈ BKL) : okF h (s + 5) 0 = true := (wf_sh w (n := 5) (List.all_eq_true.mp bfq5 s hs)).1
theorem bfW5 {h : Hp} (w : WF h) {s : Int} (hs : s ∈ BKL) : okW h (s + 5) 0 = true := (wf_sh w (n := 5) (List.all_eq_true.mp bfq5 s hs)).2.1
theorem bfL5 {h : Hp} (w : WF h) {s : Int} (hs : s ∈ BKL) : len h (s + 5) = 5 := (wf_sh w (k := 0) (List.all_eq_true.mp bfq5 s hs)).2.2
theorem bfq6 : BKL.all (fun s => shQ (s + 6) 0 5) = true := by decide +kernel
theorem bfF6 {h : Hp} (w : WF h) {s : Int} (hs : s ∈ BKL) : okF h (s + 6) 0 = true := (wf_sh w (n := 5) (List.all_eq_true.mp bfq6 s hs)).1
theorem bfW6 {h : Hp} (w : WF h) {s : Int} (hs : s ∈ BKL) : okW h (s + 6) 0 = true := (wf_sh w (n := 5) (List.all_eq_true.mp bfq6 s hs)).2.1
theorem bfL6 {h : Hp} (w : WF h) {s : Int} (hs : s ∈ BKL) : len h (s + 6) = 5 := (wf_sh w (k := 0) (List.all_eq_true.mp bfq6 s hs)).2.2
theorem bfq7 : BKL.all (fun s => shQ (s + 7) 0 5) = true := by decide +kernel
theorem bfF7 {h : Hp} (w : WF h) {s : Int} (hs : s ∈ BKL) : okF h (s + 7) 0 = true := (wf_sh w (n := 5) (List.all_eq_true.mp bfq7 s hs)).1
theorem bfW7 {h : Hp} (w : WF h) {s : Int} (hs : s ∈ BKL) : okW h (s + 7) 0 = true := (wf_sh w (n := 5) (List.all_eq_true.mp bfq7 s hs)).2.1
theorem bfL7 {h : Hp} (w : WF h) {s : Int} (hs : s ∈ BKL) : len h (s + 7) = 5 := (wf_sh w (k := 0) (List.all_eq_true.mp bfq7 s hs)).2.2
theorem bfq8 : BKL.all (fun s => shQ (s + 8) 0 5) = true := by decide +kernel
theorem bfF8 {h : Hp} (w : WF h) {s : Int} (hs : s ∈ BKL) : okF h (s + 8) 0 = true := (wf_sh w (n := 5) (List.all_eq_true.mp bfq8 s hs)).1
theorem bfW8 {h : Hp} (w : WF h) {s : Int} (hs : s ∈ BKL) : okW h (s + 8) 0 = true := (wf_sh w (n := 5) (List.all_eq_true.mp bfq8 s hs)).2.1
theorem bfL8 {h : Hp} (w : WF h) {s : Int} (hs : s ∈ BKL) : len h (s + 8) = 5 := (wf_sh w (k := 0) (List.all_eq_true.mp bfq8 s hs)).2.2
theorem bfq9 : BKL.all (fun s => shQ (s + 9) 0 10) = true := by decide +kernel
theorem bfF9 {h : Hp} (w : WF h) {s : Int} (hs : s ∈ BKL) : okF h (s + 9) 0 = true := (wf_sh w (n := 10) (List.all_eq_true.mp bfq9 s hs)).1
theorem bfW9 {h : Hp} (w : WF h) {s : Int} (hs : s ∈ BKL) : okW h (s + 9) 0 = true := (wf_sh w (n := 10) (List.all_eq_true.mp bfq9 s hs)).2.1
theorem bfL9 {h : Hp} (w : WF h) {s : Int} (hs : s ∈ BKL) : len h (s + 9) = 10 := (wf_sh w (k := 0) (List.all_eq_true.mp bfq9 s hs)).2.2
theorem bfq10 : BKL.all (fun s => shQ (s + 10) 0 10) = true := by decide +kernel
theorem bfF10 {h : Hp} (w : WF h) {s : Int} (hs : s ∈ BKL) : okF h (s + 10) 0 = true := (wf_sh w (n := 10) (List.all_eq_true.mp bfq10 s hs)).1
theorem bfW10 {h : Hp} (w : WF h) {s : Int} (hs : s ∈ BKL) : okW h (s + 10) 0 = true := (wf_sh w (n := 10) (List.all_eq_true.mp bfq10 s hs)).2.1
theorem bfL10 {h : Hp} (w : WF h) {s : Int} (hs : s ∈ BKL) : len h (s + 10) = 10 := (wf_sh w (k := 0) (List.all_eq_true.mp bfq10 s hs)).2.2
theorem bfq11 : BKL.all (fun s => shQ (s + 11) 0 10) = true := by decide +kernel
theorem bfF11 {h : Hp} (w : WF h) {s : Int} (hs : s ∈ BKL) : okF h (s + 11) 0 = true := (wf_sh w (n := 10) (List.all_eq_true.mp bfq11 s hs)).1
theorem bfW11 {h : Hp} (w : WF h) {s : Int} (hs : s ∈ BKL) : okW h (s + 11) 0 = true := (wf_sh w (n := 10) (List.all_eq_true.mp bfq11 s hs)).2.1
theorem bfL11 {h : Hp} (w : WF h) {s : Int} (hs : s ∈ BKL) : len h (s + 11) = 10 := (wf_sh w (k := 0) (List.all_eq_true.mp bfq11 s hs)).2.2
theorem bfq12 : BKL.all (fun s => shQ (s + 12) 8 3) = true := by decide +kernel
theorem bfF12 {h : Hp} (w : WF h) {s : Int} (hs : s ∈ BKL) : okF h (s + 12) 8 = true := (wf_sh w (n := 3) (List.all_eq_true.mp bfq12 s hs)).1
theorem bfW12 {h : Hp} (w : WF h) {s : Int} (hs : s ∈ BKL) : okW h (s + 12) 8 = true := (wf_sh w (n := 3) (List.all_eq_true.mp bfq12 s hs)).2.1
theorem bfL12 {h : Hp} (w : WF h) {s : Int} (hs : s ∈ BKL) : len h (s + 12) = 3 := (wf_sh w (k := 8) (List.all_eq_true.mp bfq12 s hs)).2.2
theorem bfq13 : BKL.all (fun s => shQ (s + 13) 0 3) = true := by decide +kernel
theorem bfF13 {h : Hp} (w : WF h) {s : Int} (hs : s ∈ BKL) : okF h (s + 13) 0 = true := (wf_sh w (n := 3) (List.all_eq_true.mp bfq13 s hs)).1
theorem bfW13 {h : Hp} (w : WF h) {s : Int} (hs : s ∈ BKL) : okW h (s + 13) 0 = true := (wf_sh w (n := 3) (List.all_eq_true.mp bfq13 s hs)).2.1
theorem bfL13 {h : Hp} (w : WF h) {s : Int} (hs : s ∈ BKL) : len h (s + 13) = 3 := (wf_sh w (k := 0) (List.all_eq_true.mp bfq13 s hs)).2.2
theorem bfq14 : BKL.all (fun s => shQ (s + 14) 0 3) = true := by decide +kernel
theorem bfF14 {h : Hp} (w : WF h) {s : Int} (hs : s ∈ BKL) : okF h (s + 14) 0 = true := (wf_sh w (n := 3) (List.all_eq_true.mp bfq14 s hs)).1
theorem bfW14 {h : Hp} (w : WF h) {s : Int} (hs : s ∈ BKL) : okW h (s + 14) 0 = true := (wf_sh w (n := 3) (List.all_eq_true.mp bfq14 s hs)).2.1
theorem bfL14 {h : Hp} (w : WF h) {s : Int} (hs : s ∈ BKL) : len h (s + 14) = 3 := (wf_sh w (k := 0) (List.all_eq_true.mp bfq14 s hs)).2.2
theorem bfq15 : BKL.all (fun s => shQ (s + 15) 0 3) = true := by decide +kernel
theorem bfF15 {h : Hp} (w : WF h) {s : Int} (hs : s ∈ BKL) : okF h (s + 15) 0 = true := (wf_sh w (n := 3) (List.all_eq_true.mp bfq15 s hs)).1
theorem bfW15 {h : Hp} (w : WF h) {s : Int} (hs : s ∈ BKL) : okW h (s + 15) 0 = true := (wf_sh w (n := 3) (List.all_eq_true.mp bfq15 s hs)).2.1
theorem bfL15 {h : Hp} (w : WF h) {s : Int} (hs : s ∈ BKL) : len h (s + 15) = 3 := (wf_sh w (k := 0) (List.all_eq_true.mp bfq15 s hs)).2.2
theorem bfq16 : BKL.all (fun s => shQ (s + 16) 2 100) = true := by decide +kernel
theorem bfF16 {h : Hp} (w : WF h) {s : Int} (hs : s ∈ BKL) : okF h (s + 16) 2 = true := (wf_sh w (n := 100) (List.all_eq_true.mp bfq16 s hs)).1
theorem bfW16 {h : Hp} (w : WF h) {s : Int} (hs : s ∈ BKL) : okW h (s + 16) 2 = true := (wf_sh w (n := 100) (List.all_eq_true.mp bfq16 s hs)).2.1
theorem bfL16 {h : Hp} (w : WF h) {s : Int} (hs : s ∈ BKL) : len h (s + 16) = 100 := (wf_sh w (k := 2) (List.all_eq_true.mp bfq16 s hs)).2.2
theorem bfq17 : BKL.all (fun s => shQ (s + 17) 6 3) = true := by decide +kernel
theorem bfF17 {h : Hp} (w : WF h) {s : Int} (hs : s ∈ BKL) : okF h (s + 17) 6 = true := (wf_sh w (n := 3) (List.all_eq_true.mp bfq17 s hs)).1
theorem bfW17 {h : Hp} (w : WF h) {s : Int} (hs : s ∈ BKL) : okW h (s + 17) 6 = true := (wf_sh w (n := 3) (List.all_eq_true.mp bfq17 s hs)).2.1
theorem bfL17 {h : Hp} (w : WF h) {s : Int} (hs : s ∈ BKL) : len h (s + 17) = 3 := (wf_sh w (k := 6) (List.all_eq_true.mp bfq17 s hs)).2.2
theorem bfq18 : BKL.all (fun s => shQ (s + 18) 22 4) = true := by decide +kernel
theorem bfF18 {h : Hp} (w : WF h) {s : Int} (hs : s ∈ BKL) : okF h (s + 18) 22 = true := (wf_sh w (n := 4) (List.all_eq_true.mp bfq18 s hs)).1
theorem bfW18 {h : Hp} (w : WF h) {s : Int} (hs : s ∈ BKL) : okW h (s + 18) 22 = true := (wf_sh w (n := 4) (List.all_eq_true.mp bfq18 s hs)).2.1
theorem bfq19 : BKL.all (fun s => shQ (s + 19) 5 64) = true := by decide +kernel
theorem bfF19 {h : Hp} (w : WF h) {s : Int} (hs : s ∈ BKL) : okF h (s + 19) 5 = true := (wf_sh w (n := 64) (List.all_eq_true.mp bfq19 s hs)).1
theorem bfW19 {h : Hp} (w : WF h) {s : Int} (hs : s ∈ BKL) : okW h (s + 19) 5 = true := (wf_sh w (n := 64) (List.all_eq_true.mp bfq19 s hs)).2.1
theorem bfL19 {h : Hp} (w : WF h) {s : Int} (hs : s ∈ BKL) : len h (s + 19) = 64 := (wf_sh w (k := 5) (List.all_eq_true.mp bfq19 s hs)).2.2
theorem bfq20 : BKL.all (fun s => shQ (s + 20) 0 64) = true := by decide +kernel
theorem bfF20 {h : Hp} (w : WF h) {s : Int} (hs : s ∈ BKL) : okF h (s + 20) 0 = true := (wf_sh w (n := 64) (List.all_eq_true.mp bfq20 s hs)).1
theorem bfW20 {h : Hp} (w : WF h) {s : Int} (hs : s ∈ BKL) : okW h (s + 20) 0 = true := (wf_sh w (n := 64) (List.all_eq_true.mp bfq20 s hs)).2.1
theorem bfL20 {h : Hp} (w : WF h) {s : Int} (hs : s ∈ BKL) : len h (s + 20) = 64 := (wf_sh w (k := 0) (List.all_eq_true.mp bfq20 s hs)).2.2
theorem bfq21 : BKL.all (fun s => shQ (s + 21) 1 64) = true := by decide +kernel
theorem bfF21 {h : Hp} (w : WF h) {s : Int} (hs : s ∈ BKL) : okF h (s + 21) 1 = true := (wf_sh w (n := 64) (List.all_eq_true.mp bfq21 s hs)).1
theorem bfW21 {h : Hp} (w : WF h) {s : Int} (hs : s ∈ BKL) : okW h (s + 21) 1 = true := (wf_sh w (n := 64) (List.all_eq_true.mp bfq21 s hs)).2.1
theorem bfL21 {h : Hp} (w : WF h) {s : Int} (hs : s ∈ BKL) : len h (s + 21) = 64 := (wf_sh w (k := 1) (List.all_eq_true.mp bfq21 s hs)).2.2
theorem bfq22 : BKL.all (fun s => shQ (s + 22) 22 4) = true := by decide +kernel
theorem bfF22 {h : Hp} (w : WF h) {s : Int} (hs : s ∈ BKL) : okF h (s + 22) 22 = true := (wf_sh w (n := 4) (List.all_eq_true.mp bfq22 s hs)).1
theorem bfW22 {h : Hp} (w : WF h) {s : Int} (hs : s ∈ BKL) : okW h (s + 22) 22 = true := (wf_sh w (n := 4) (List.all_eq_true.mp bfq22 s hs)).2.1
theorem bfq23 : BKL.all (fun s => shQ (s + 23) 5 64) = true := by decide +kernel
theorem bfF23 {h : Hp} (w : WF h) {s : Int} (hs : s ∈ BKL) : okF h (s + 23) 5 = true := (wf_sh w (n := 64) (List.all_eq_true.mp bfq23 s hs)).1
theorem bfW23 {h : Hp} (w : WF h) {s : Int} (hs : s ∈ BKL) : okW h (s + 23) 5 = true := (wf_sh w (n := 64) (List.all_eq_true.mp bfq23 s hs)).2.1
theorem bfL23 {h : Hp} (w : WF h) {s : Int} (hs : s ∈ BKL) : len h (s + 23) = 64 := (wf_sh w (k := 5) (List.all_eq_true.mp bfq23 s hs)).2.2
theorem bfq24 : BKL.all (fun s => shQ (s + 24) 0 64) = true := by decide +kernel
theorem bfF24 {h : Hp} (w : WF h) {s : Int} (hs : s ∈ BKL) : okF h (s + 24) 0 = true := (wf_sh w (n := 64) (List.all_eq_true.mp bfq24 s hs)).1
theorem bfW24 {h : Hp} (w : WF h) {s : Int} (hs : s ∈ BKL) : okW h (s + 24) 0 = true := (wf_sh w (n := 64) (List.all_eq_true.mp bfq24 s hs)).2.1
theorem bfL24 {h : Hp} (w : WF h) {s : Int} (hs : s ∈ BKL) : len h (s + 24) = 64 := (wf_sh w (k := 0) (List.all_eq_true.mp bfq24 s hs)).2.2
theorem bfq25 : BKL.all (fun s => shQ (s + 25) 1 64) = true := by decide +kernel
theorem bfF25 {h : Hp} (w : WF h) {s : Int} (hs : s ∈ BKL) : okF h (s + 25) 1 = true := (wf_sh w (n := 64) (List.all_eq_true.mp bfq25 s hs)).1
theorem bfW25 {h : Hp} (w : WF h) {s : Int} (hs : s ∈ BKL) : okW h (s + 25) 1 = true := (wf_sh w (n := 64) (List.all_eq_true.mp bfq25 s hs)).2.1
theorem bfL25 {h : Hp} (w : WF h) {s : Int} (hs : s ∈ BKL) : len h (s + 25) = 64 := (wf_sh w (k := 1) (List.all_eq_true.mp bfq25 s hs)).2.2
theorem bfq26 : BKL.all (fun s => shQ (s + 26) 22 4) = true := by decide +kernel
theorem bfF26 {h : Hp} (w : WF h) {s : Int} (hs : s ∈ BKL) : okF h (s + 26) 22 = true := (wf_sh w (n := 4) (List.all_eq_true.mp bfq26 s hs)).1
theorem bfW26 {h : Hp} (w : WF h) {s : Int} (hs : s ∈ BKL) : okW h (s + 26) 22 = true := (wf_sh w (n := 4) (List.all_eq_true.mp bfq26 s hs)).2.1
theorem bfq27 : BKL.all (fun s => shQ (s + 27) 5 64) = true := by decide +kernel
theorem bfF27 {h : Hp} (w : WF h) {s : Int} (hs : s ∈ BKL) : okF h (s + 27) 5 = true := (wf_sh w (n := 64) (List.all_eq_true.mp bfq27 s hs)).1
theorem bfW27 {h : Hp} (w : WF h) {s : Int} (hs : s ∈ BKL) : okW h (s + 27) 5 = true := (wf_sh w (n := 64) (List.all_eq_true.mp bfq27 s hs)).2.1
theorem bfL27 {h : Hp} (w : WF h) {s : Int} (hs : s ∈ BKL) : len h (s + 27) = 64 := (wf_sh w (k := 5) (List.all_eq_true.mp bfq27 s hs)).2.2
theorem bfq28 : BKL.all (fun s => shQ (s + 28) 0 64) = true := by decide +kernel
theorem bfF28 {h : Hp} (w : WF h) {s : Int} (hs : s ∈ BKL) : okF h (s + 28) 0 = true := (wf_sh w (n := 64) (List.all_eq_true.mp bfq28 s hs)).1
theorem bfW28 {h : Hp} (w : WF h) {s : Int} (hs : s ∈ BKL) : okW h (s + 28) 0 = true := (wf_sh w (n := 64) (List.all_eq_true.mp bfq28 s hs)).2.1
theorem bfL28 {h : Hp} (w : WF h) {s : Int} (hs : s ∈ BKL) : len h (s + 28) = 64 := (wf_sh w (k := 0) (List.all_eq_true.mp bfq28 s hs)).2.2
theorem bfq29 : BKL.all (fun s => shQ (s + 29) 1 64) = true := by decide +kernel
theorem bfF29 {h : Hp} (w : WF h) {s : Int} (hs : s ∈ BKL) : okF h (s + 29) 1 = true := (wf_sh w (n := 64) (List.all_eq_true.mp bfq29 s hs)).1
theorem bfW29 {h : Hp} (w : WF h) {s : Int} (hs : s ∈ BKL) : okW h (s + 29) 1 = true := (wf_sh w (n := 64) (List.all_eq_true.mp bfq29 s hs)).2.1
theorem bfL29 {h : Hp} (w : WF h) {s : Int} (hs : s ∈ BKL) : len h (s + 29) = 64 := (wf_sh w (k := 1) (List.all_eq_true.mp bfq29 s hs)).2.2
theorem bfP1b : BKL.all (fun s => decide ((s + 0, (1 : Int), s + 1) ∈ PTL)) = true := by decide +kernel
theorem bfP1 {h : Hp} (w : WF h) {s : Int} (hs : s ∈ BKL) : ld h s 1 = s + 1 := wf_pt w (by have := of_decide_eq_true (List.all_eq_true.mp bfP1b s hs); simpa using this)
theorem bfP2b : BKL.all (fun s => decide ((s + 0, (2 : Int), s + 2) ∈ PTL)) = true := by decide +kernel
theorem bfP2 {h : Hp} (w : WF h) {s : Int} (hs : s ∈ BKL) : ld h s 2 = s + 2 := wf_pt w (by have := of_decide_eq_true (List.all_eq_true.mp bfP2b s hs); simpa using this)
theorem bfP3b : BKL.all (fun s => decide ((s + 0, (3 : Int), s + 3) ∈ PTL)) = true := by decide +kernel
theorem bfP3 {h : Hp} (w : WF h) {s : Int} (hs : s ∈ BKL) : ld h s 3 = s + 3 := wf_pt w (by have := of_decide_eq_true (List.all_eq_true.mp bfP3b s hs); simpa using this)
theorem bfP5b : BKL.all (fun s => decide ((s + 0, (5 : Int), s + 4) ∈ PTL)) = true := by decide +kernel
theorem bfP5 {h : Hp} (w : WF h) {s : Int} (hs : s ∈ BKL) : ld h s 5 = s + 4 := wf_pt w (by have := of_decide_eq_true (List.all_eq_true.mp bfP5b s hs); simpa using this)
theorem bfP6b : BKL.all (fun s => decide ((s + 0, (6 : Int), s + 5) ∈ PTL)) = true := by decide +kernel
theorem bfP6 {h : Hp} (w : WF h) {s : Int} (hs : s ∈ BKL) : ld h s 6 = s + 5 := wf_pt w (by have := of_decide_eq_true (List.all_eq_true.mp bfP6b s hs); simpa using this)
theorem bfP7b : BKL.all (fun s => decide ((s + 0, (7 : Int), s + 6) ∈ PTL)) = true := by decide +kernel
theorem bfP7 {h : Hp} (w : WF h) {s : Int} (hs : s ∈ BKL) : ld h s 7 = s + 6 := wf_pt w (by have := of_decide_eq_true (List.all_eq_true.mp bfP7b s hs); simpa using this)
theorem bfP9b : BKL.all (fun s => decide ((s + 0, (9 : Int), s + 7) ∈ PTL)) = true := by decide +kernel
theorem bfP9 {h : Hp} (w : WF h) {s : Int} (hs : s ∈ BKL) : ld h s 9 = s + 7 := wf_pt w (by have := of_decide_eq_true (List.all_eq_true.mp bfP9b s hs); simpa using this)
theorem bfP10b : BKL.all (fun s => decide ((s + 0, (10 : Int), s + 8) ∈ PTL)) = true := by decide +kernel
theorem bfP10 {h : Hp} (w : WF h) {s : Int} (hs : s ∈ BKL) : ld h s 10 = s + 8 := wf_pt w (by have := of_decide_eq_true (List.all_eq_true.mp bfP10b s hs); simpa using this)
theorem bfP12b : BKL.all (fun s => decide ((s + 0, (12 : Int), s + 9) ∈ PTL)) = true := by decide +kernel
theorem bfP12 {h : Hp} (w : WF h) {s : Int} (hs : s ∈ BKL) : ld h s 12 = s + 9 := wf_pt w (by have := of_decide_eq_true (List.all_eq_true.mp bfP12b s hs); simpa using this)
theorem bfP13b : BKL.all (fun s => decide ((s + 0, (13 : Int), s + 10) ∈ PTL)) = true := by decide +kernel
theorem bfP13 {h : Hp} (w : WF h) {s : Int} (hs : s ∈ BKL) : ld h s 13 = s + 10 := wf_pt w (by have := of_decide_eq_true (List.all_eq_true.mp bfP13b s hs); simpa using this)
theorem bfP14b : BKL.all (fun s => decide ((s + 0, (14 : Int), s + 11) ∈ PTL)) = true := by decide +kernel
theorem bfP14 {h : Hp} (w : WF h) {s : Int} (hs : s ∈ BKL) : ld h s 14 = s + 11 := wf_pt w (by have := of_decide_eq_true (List.all_eq_true.mp bfP14b s hs); simpa using this)
theorem bfP16b : BKL.all (fun s => decide ((s + 0, (16 : Int), s + 12) ∈ PTL)) = true := by decide +kernel
theorem bfP16 {h : Hp} (w : WF h) {s : Int} (hs : s ∈ BKL) : ld h s 16 = s + 12 := wf_pt w (by have := of_decide_eq_true (List.all_eq_true.mp bfP16b s hs); simpa using this)
theorem bfP0_12b : BKL.all (fun s => decide ((s + 12, (0 : Int), s + 13) ∈ PTL)) = true := by decide +kernel
theorem bfP0_12 {h : Hp} (w : WF h) {s : Int} (hs : s ∈ BKL) : ld h (s + 12) 0 = s + 13 := wf_pt w (by have := of_decide_eq_true (List.all_eq_true.mp bfP0_12b s hs); exact this)
theorem bfP1_12b : BKL.all (fun s => decide ((s + 12, (1 : Int), s + 14) ∈ PTL)) = true := by decide +kernel
theorem bfP1_12 {h : Hp} (w : WF h) {s : Int} (hs : s ∈ BKL) : ld h (s + 12) 1 = s + 14 := wf_pt w (by have := of_decide_eq_true (List.all_eq_true.mp bfP1_12b s hs); exact this)
theorem bfP2_12b : BKL.all (fun s => decide ((s + 12, (2 : Int), s + 15) ∈ PTL)) = true := by decide +kernel
theorem bfP2_12 {h : Hp} (w : WF h) {s : Int} (hs : s ∈ BKL) : ld h (s + 12) 2 = s + 15 := wf_pt w (by have := of_decide_eq_true (List.all_eq_true.mp bfP2_12b s hs); exact this)
theorem bfP18b : BKL.all (fun s => decide ((s + 0, (18 : Int), s + 16) ∈ PTL)) = true := by decide +kernel
theorem bfP18 {h : Hp} (w : WF h) {s : Int} (hs : s ∈ BKL) : ld h s 18 = s + 16 := wf_pt w (by have := of_decide_eq_true (List.all_eq_true.mp bfP18b s hs); simpa using this)
theorem bfP19b : BKL.all (fun s => decide ((s + 0, (19 : Int), s + 17) ∈ PTL)) = true := by decide +kernel
theorem bfP19 {h : Hp} (w : WF h) {s : Int} (hs : s ∈ BKL) : ld h s 19 = s + 17 := wf_pt w (by have := of_decide_eq_true (List.all_eq_true.mp bfP19b s hs); simpa using this)
theorem bfP0_17b : BKL.all (fun s => decide ((s + 17, (0 : Int), s + 18) ∈ PTL)) = true := by decide +kernel
theorem bfP0_17 {h : Hp} (w : WF h) {s : Int} (hs : s ∈ BKL) : ld h (s + 17) 0 = s + 18 := wf_pt w (by have := of_decide_eq_true (List.all_eq_true.mp bfP0_17b s hs); exact this)
theorem bfP0_18b : BKL.all (fun s => decide ((s + 18, (0 : Int), s + 19) ∈ PTL)) = true := by decide +kernel
theorem bfP0_18 {h : Hp} (w : WF h) {s : Int} (hs : s ∈ BKL) : ld h (s + 18) 0 = s + 19 := wf_pt w (by have := of_decide_eq_true (List.all_eq_true.mp bfP0_18b s hs); exact this)
theorem bfP1_18b : BKL.all (fun s => decide ((s + 18, (1 : Int), s + 20) ∈ PTL)) = true := by decide +kernel
theorem bfP1_18 {h : Hp} (w : WF h) {s : Int} (hs : s ∈ BKL) : ld h (s + 18) 1 = s + 20 := wf_pt w (by have := of_decide_eq_true (List.all_eq_true.mp bfP1_18b s hs); exact this)
theorem bfP2_18b : BKL.all (fun s => decide ((s + 18, (2 : Int), s + 21) ∈ PTL)) = true := by decide +kernel
theorem bfP2_18 {h : Hp} (w : WF h) {s : Int} (hs : s ∈ BKL) : ld h (s + 18) 2 = s + 21 := wf_pt w (by have := of_decide_eq_true (List.all_eq_true.mp bfP2_18b s hs); exact this)
theorem bfP1_17b : BKL.all (fun s => decide ((s + 17, (1 : Int), s + 22) ∈ PTL)) = true := by decide +kernel
theorem bfP1_17 {h : Hp} (w : WF h) {s : Int} (hs : s ∈ BKL) : ld h (s + 17) 1 = s + 22 := wf_pt w (by have := of_decide_eq_true (List.all_eq_true.mp bfP1_17b s hs); exact this)
theorem bfP0_22b : BKL.all (fun s => decide ((s + 22, (0 : Int), s + 23) ∈ PTL)) = true := by decide +kernel
theorem bfP0_22 {h : Hp} (w : WF h) {s : Int} (hs : s ∈ BKL) : ld h (s + 22) 0 = s + 23 := wf_pt w (by have := of_decide_eq_true (List.all_eq_true.mp bfP0_22b s hs); exact this)
theorem bfP1_22b : BKL.all (fun s => decide ((s + 22, (1 : Int), s + 24) ∈ PTL)) = true := by decide +kernel
theorem bfP1_22 {h : Hp} (w : WF h) {s : Int} (hs : s ∈ BKL) : ld h (s + 22) 1 = s + 24 := wf_pt w (by have := of_decide_eq_true (List.all_eq_true.mp bfP1_22b s hs); exact this)
theorem bfP2_22b : BKL.all (fun s => decide ((s + 22, (2 : Int), s + 25) ∈ PTL)) = true := by decide +kernel
theorem bfP2_22 {h : Hp} (w : WF h) {s : Int} (hs : s ∈ BKL) : ld h (s + 22) 2 = s + 25 := wf_pt w (by have := of_decide_eq_true (List.all_eq_true.mp bfP2_22b s hs); exact this)
theorem bfP2_17b : BKL.all (fun s => decide ((s + 17, (2 : Int), s + 26) ∈ PTL)) = true := by decide +kernel
theorem bfP2_17 {h : Hp} (w : WF h) {s : Int} (hs : s ∈ BKL) : ld h (s + 17) 2 = s + 26 := wf_pt w (by have := of_decide_eq_true (List.all_eq_true.mp bfP2_17b s hs); exact this)
theorem bfP0_26b : BKL.all (fun s => decide ((s + 26, (0 : Int), s + 27) ∈ PTL)) = true := by decide +kernel
theorem bfP0_26 {h : Hp} (w : WF h) {s : Int} (hs : s ∈ BKL) : ld h (s + 26) 0 = s + 27 := wf_pt w (by have := of_decide_eq_true (List.all_eq_true.mp bfP0_26b s hs); exact this)
theorem bfP1_26b : BKL.all (fun s => decide ((s + 26, (1 : Int), s + 28) ∈ PTL)) = true := by decide +kernel
theorem bfP1_26 {h : Hp} (w : WF h) {s : Int} (hs : s ∈ BKL) : ld h (s + 26) 1 = s + 28 := wf_pt w (by have := of_decide_eq_true (List.all_eq_true.mp bfP1_26b s hs); exact this)
theorem bfP2_26b : BKL.all (fun s => decide ((s + 26, (2 : Int), s + 29) ∈ PTL)) = true := by decide +kernel
theorem bfP2_26 {h : Hp} (w : WF h) {s : Int} (hs : s ∈ BKL) : ld h (s + 26) 2 = s + 29 := wf_pt w (by have := of_decide_eq_true (List.all_eq_true.mp bfP2_26b s hs); exact this)
theorem lfq0 : LWL.all (fun s => shQ (s + 0) 22 4) = true := by decide +kernel
theorem lfF0 {h : Hp} (w : WF h) {s : Int} (hs : s ∈ LWL) : okF h s 22 = true := (wf_sh w (n := 4) (by have := List.all_eq_true.mp lfq0 s hs; simpa using this)).1
theorem lfW0 {h : Hp} (w : WF h) {s : Int} (hs : s ∈ LWL) : okW h s 22 = true := (wf_sh w (n := 4) (by have := List.all_eq_true.mp lfq0 s hs; simpa using this)).2.1
theorem lfq1 : LWL.all (fun s => shQ (s + 1) 5 64) = true := by decide +kernel
theorem lfF1 {h : Hp} (w : WF h) {s : Int} (hs : s ∈ LWL) : okF h (s + 1) 5 = true := (wf_sh w (n := 64) (List.all_eq_true.mp lfq1 s hs)).1
theorem lfW1 {h : Hp} (w : WF h) {s : Int} (hs : s ∈ LWL) : okW h (s + 1) 5 = true := (wf_sh w (n := 64) (List.all_eq_true.mp lfq1 s hs)).2.1
theorem lfL1 {h : Hp} (w : WF h) {s : Int} (hs : s ∈ LWL) : len h (s + 1) = 64 := (wf_sh w (k := 5) (List.all_eq_true.mp lfq1 s hs)).2.2
theorem lfq2 : LWL.all (fun s => shQ (s + 2) 0 64) = true := by decide +kernel
theorem lfF2 {h : Hp} (w : WF h) {s : Int} (hs : s ∈ LWL) : okF h (s + 2) 0 = true := (wf_sh w (n := 64) (List.all_eq_true.mp lfq2 s hs)).1
theorem lfW2 {h : Hp} (w : WF h) {s : Int} (hs : s ∈ LWL) : okW h (s + 2) 0 = true := (wf_sh w (n := 64) (List.all_eq_true.mp lfq2 s hs)).2.1
theorem lfL2 {h : Hp} (w : WF h) {s : Int} (hs : s ∈ LWL) : len h (s + 2) = 64 := (wf_sh w (k := 0) (List.all_eq_true.mp lfq2 s hs)).2.2
theorem lfq3 : LWL.all (fun s => shQ (s + 3) 1 64) = true := by decide +kernel
theorem lfF3 {h : Hp} (w : WF h) {s : Int} (hs : s ∈ LWL) : okF h (s + 3) 1 = true := (wf_sh w (n := 64) (List.all_eq_true.mp lfq3 s hs)).1
theorem lfW3 {h : Hp} (w : WF h) {s : Int} (hs : s ∈ LWL) : okW h (s + 3) 1 = true := (wf_sh w (n := 64) (List.all_eq_true.mp lfq3 s hs)).2.1
theorem lfL3 {h : Hp} (w : WF h) {s : Int} (hs : s ∈ LWL) : len h (s + 3) = 64 := (wf_sh w (k := 1) (List.all_eq_true.mp lfq3 s hs)).2.2
theorem lfP0b : LWL.all (fun s => decide ((s + 0, (0 : Int), s + 1) ∈ PTL)) = true := by decide +kernel
theorem lfP0 {h : Hp} (w : WF h) {s : Int} (hs : s ∈ LWL) : ld h s 0 = s + 1 := wf_pt w (by have := of_decide_eq_true (List.all_eq_true.mp lfP0b s hs); simpa using this)
theorem lfP1b : LWL.all (fun s => decide ((s + 0, (1 : Int), s + 2) ∈ PTL)) = true := by decide +kernel
theorem lfP1 {h : Hp} (w : WF h) {s : Int} (hs : s ∈ LWL) : ld h s 1 = s + 2 := wf_pt w (by have := of_decide_eq_true (List.all_eq_true.mp lfP1b s hs); simpa using this)
theorem lfP2b : LWL.all (fun s => decide ((s + 0, (2 : Int), s + 3) ∈ PTL)) = true := by decide +kernel
theorem lfP2 {h : Hp} (w : WF h) {s : Int} (hs : s ∈ LWL) : ld h s 2 = s + 3 := wf_pt w (by have := of_decide_eq_true (List.all_eq_true.mp lfP2b s hs); simpa using this)
/-! families: arrays of numbers of a state, of a book, of a law; and what is written in passing (names, stacks) -/
def nfam (l : List Int) (offs : List Int) : Bool := l.all (fun s => offs.all (fun i => nptA (s + i)))
theorem sf_nA : nfam STL [1, 2, 3, 4, 5, 6, 7] = true := by decide +kernel
theorem bf_nA : nfam BKL [1, 2, 3, 4, 5, 6, 7, 8, 9, 10, 11, 13, 14, 15, 16, 19, 20, 21, 23, 24, 25, 27, 28, 29] = true := by decide +kernel
theorem lf_nA : nfam LWL [1, 2, 3] = true := by decide +kernel
theorem nfam_at {l offs : List Int} (e : nfam l offs = true) {s i : Int} (hs : s ∈ l) (hi : i ∈ offs) (j : Int) : npt (s + i) j := npt_A (List.all_eq_true.mp (List.all_eq_true.mp e s hs) i hi) j
theorem sf_nJ : STL.all (fun s => [(0 : Int), 1, 2, 3, 4, 5, 10].all (fun j => nptJ s j)) = true := by decide +kernel
theorem bf_nJ : BKL.all (fun s => [(0 : Int), 4, 8, 11, 15, 17].all (fun j => nptJ s j)) = true := by decide +kernel
theorem lf_nJ : LWL.all (fun s => nptJ s 3) = true := by decide +kernel
def SCRL : List Int := (STL.map (fun s => s + 7)) ++ LWL.map (fun q => q + 3)
def scr (a : Int) : Bool := SCRL.contains a
theorem scr_s : STL.all (fun s => scr (s + 7) && [(0 : Int), 1, 2, 3, 4, 5, 6].all (fun i => !scr (s + i))) = true := by decide +kernel
theorem scr_b : BKL.all (fun b => ((List.range 30).map (fun (i : Nat) => (i : Int))).all (fun i => decide (i = 21 ∨ i = 25 ∨ i = 29) || !scr (b + i))) = true := by decide +kernel
theorem scr_q : LWL.all (fun q => scr (q + 3)) = true := by decide +kernel
theorem st_pos : STL.all (fun s => decide (90 < s ∧ s < 283)) = true := by decide +kernel
theorem lw_pos : LWL.all (fun s => decide (50 < s ∧ s < 97)) = true := by decide +kernel
/-- the same but for what is written in passing -/
def FrS (h h' : Hp) : Prop := WF h' ∧ h'.2 = h.2 ∧ ∀ a j : Int, scr a = false → h'.1 a j = h.1 a j
theorem FrS_rf {h : Hp} (w : WF h) : FrS h h := ⟨w, rfl, fun _ _ _ => rfl⟩
theorem FrS_tr {h h1 h2 : Hp} (f : FrS h h1) (g : FrS h1 h2) : FrS h h2 := ⟨g.1, g.2.1.trans f.2.1, fun a j e => (g.2.2 a j e).trans (f.2.2 a j e)⟩
theorem FrS_st {h : Hp} (w : WF h) {a j v : Int} (hs : scr a = true) (hn : npt a j) : FrS h (st h a j v) := ⟨wf_st w hn, rfl, fun b k e => by
  show (if b = a ∧ k = j then v else h.1 b k) = _
  rw [if_neg (fun z => by rw [z.1, hs] at e; cases e)]⟩
