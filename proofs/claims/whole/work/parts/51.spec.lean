/-! layer 2: what a text and a state are, and what both programs answer of them.
A text T and a state S are tables: number of the table, place, value.
T: 0 features 1 sitters 2 pieces 3 kin; 4 name 5 base 6 size of a feature; 7 name 8 purse 9 rate 10 twin 11 heir of a sitter; 12 sitter 13 feature 14 day of a piece; 15 16 17 kin; 18 hail; 19 20 21 lengths of the laws; 22 24 26 kinds of their knots, 23 25 27 values.
S: 0 day 1 painter 2 dead 3 lapsed 4 forged 5 changes; 6 purse; 7 paid 8 strokes 9 owner; 10 changed piece 11 its owner -/
abbrev Wd := Nat → Int → Int
def bI (b : Bool) : Int := if b = true then 1 else 0
theorem bI_01 (b : Bool) : bI b = 0 ∨ bI b = 1 := by cases b <;> simp [bI]
theorem bI_t : bI true = 1 := rfl
theorem bI_f : bI false = 0 := rfl
theorem bI_0 {b : Bool} : bI b = 0 ↔ b = false := by cases b <;> simp [bI]
/-! answers that are yes or no -/
theorem yb {P : Prop} {hP : Decidable P} {h : Hp} : (if P then some (((0 : Nat), (1 : Int)), h) else some ((0, 0), h)) = some ((0, bI (decide P)), h) := by
  unfold bI; by_cases q : P <;> simp [q]
theorem nb {P : Prop} {hP : Decidable P} {h : Hp} : (if P then some (((0 : Nat), (0 : Int)), h) else some ((0, 1), h)) = some ((0, bI (!decide P)), h) := by
  unfold bI; by_cases q : P <;> simp [q]
theorem yb0 {P : Prop} {hP : Decidable P} {h : Hp} {q : Bool} : (if P then some (((0 : Nat), (0 : Int)), h) else some ((0, bI q), h)) = some ((0, bI (!decide P && q)), h) := by
  by_cases z : P <;> simp [z, bI]
theorem yb1 {P : Prop} {hP : Decidable P} {h : Hp} {q : Bool} : (if P then some (((0 : Nat), (1 : Int)), h) else some ((0, bI q), h)) = some ((0, bI (decide P || q)), h) := by
  by_cases z : P <;> simp [z, bI]
theorem yb2 {P : Prop} {hP : Decidable P} {h : Hp} {q : Bool} : (if P then some (((0 : Nat), bI q), h) else some ((0, 0), h)) = some ((0, bI (decide P && q)), h) := by
  by_cases z : P <;> simp [z, bI]
theorem yb3 {P : Prop} {hP : Decidable P} {h : Hp} {q : Bool} : (if P then some (((0 : Nat), bI q), h) else some ((0, 1), h)) = some ((0, bI (!decide P || q)), h) := by
  by_cases z : P <;> simp [z, bI]
theorem bI_e0 {b : Bool} : (bI b = 0) = (b = false) := by cases b <;> simp [bI]
theorem bI_e1 {b : Bool} : (bI b = 1) = (b = true) := by cases b <;> simp [bI]
theorem bI_ok {b : Bool} : (bI b = 0 ∨ bI b = 1) = True := eq_true (bI_01 b)
theorem one_ok : ((1 : Int) = 0 ∨ (1 : Int) = 1) = True := by decide
theorem zero_ok : ((0 : Int) = 0 ∨ (0 : Int) = 1) = True := by decide
theorem dec_f {b : Bool} : decide (b = false) = !b := by cases b <;> rfl
theorem dec_t {b : Bool} : decide (b = true) = b := by cases b <;> rfl
def rng (i n v : Int) : Int := if 0 ≤ i ∧ i < n then v else 0
theorem rng_in {i n v : Int} (h : 0 ≤ i ∧ i < n) : rng i n v = v := if_pos h
def tokOp (k : Nat) : Int := [0, 0, 0, 0, 0, 0, 0, 60, 256, 61, 257, 258, 62, 43, 45, 42, 47, 262, 261, 260].getD k 0
/-- a knot as the class keeps it: a token and a number -/
def ksort (a : Int) : Int := if -20 ≤ a ∧ a ≤ -8 then 2 else if -38 ≤ a ∧ a ≤ -32 then 1 else 0
def kval (a n : Int) : Int := if -20 ≤ a ∧ a ≤ -8 then tokOp (-1 - a).toNat else if -38 ≤ a ∧ a ≤ -32 then -32 - a else n
def krow (h : Hp) (b i j : Int) : Int := if i = 0 then ld h (b + 13) j else if i = 1 then ld h (b + 14) j else ld h (b + 15) j
def tC (h : Hp) (b : Int) : Wd := fun f i => match f with
  | 0 => ld h b 0 | 1 => ld h b 4 | 2 => ld h b 11 | 3 => ld h b 15
  | 4 => rng i (ld h b 0) (ld h (b + 1) i) | 5 => rng i (ld h b 0) (ld h (b + 2) i) | 6 => rng i (ld h b 0) (ld h (b + 3) i)
  | 7 => rng i (ld h b 4) (ld h (b + 4) i) | 8 => rng i (ld h b 4) (ld h (b + 5) i) | 9 => rng i (ld h b 4) (ld h (b + 6) i) | 10 => rng i (ld h b 4) (ld h (b + 7) i) | 11 => rng i (ld h b 4) (ld h (b + 8) i)
  | 12 => rng i (ld h b 11) (ld h (b + 9) i) | 13 => rng i (ld h b 11) (ld h (b + 10) i) | 14 => rng i (ld h b 11) (ld h (b + 11) i)
  | 15 => rng i (ld h b 15) (krow h b i 0) | 16 => rng i (ld h b 15) (krow h b i 1) | 17 => rng i (ld h b 15) (krow h b i 2)
  | 18 => rng i 100 (ld h (b + 16) i)
  | 19 => ld h (b + 18) 3 | 20 => ld h (b + 22) 3 | 21 => ld h (b + 26) 3
  | 22 => rng i (ld h (b + 18) 3) (ksort (ld h (b + 19) i)) | 23 => rng i (ld h (b + 18) 3) (kval (ld h (b + 19) i) (ld h (b + 20) i))
  | 24 => rng i (ld h (b + 22) 3) (ksort (ld h (b + 23) i)) | 25 => rng i (ld h (b + 22) 3) (kval (ld h (b + 23) i) (ld h (b + 24) i))
  | 26 => rng i (ld h (b + 26) 3) (ksort (ld h (b + 27) i)) | 27 => rng i (ld h (b + 26) 3) (kval (ld h (b + 27) i) (ld h (b + 28) i))
  | _ => 0
def sC (h : Hp) (s ns np : Int) : Wd := fun f i => match f with
  | 0 => ld h s 1 | 1 => ld h s 2 | 2 => ld h s 3 | 3 => ld h s 4 | 4 => ld h s 5 | 5 => ld h s 10
  | 6 => rng i ns (ld h (s + 1) i) | 7 => rng i np (ld h (s + 2) i) | 8 => rng i np (ld h (s + 3) i) | 9 => rng i np (ld h (s + 4) i)
  | 10 => rng i (ld h s 10) (ld h (s + 5) i) | 11 => rng i (ld h s 10) (ld h (s + 6) i)
  | _ => 0
def hailAt (h : Hp) (i : Int) : Bool := (List.range (ld h 313 5).toNat).any (fun k => ld h 328 (k : Int) == i)
def tR (h : Hp) : Wd := fun f i => match f with
  | 0 => ld h 313 0 | 1 => ld h 313 1 | 2 => ld h 313 2 | 3 => ld h 313 3
  | 4 => rng i (ld h 313 0) (ld h 314 i) | 5 => rng i (ld h 313 0) (ld h 315 i) | 6 => rng i (ld h 313 0) (ld h 316 i)
  | 7 => rng i (ld h 313 1) (ld h 317 i) | 8 => rng i (ld h 313 1) (ld h 318 i) | 9 => rng i (ld h 313 1) (ld h 319 i) | 10 => rng i (ld h 313 1) (ld h 320 i) | 11 => rng i (ld h 313 1) (ld h 321 i)
  | 12 => rng i (ld h 313 2) (ld h 322 i) | 13 => rng i (ld h 313 2) (ld h 323 i) | 14 => rng i (ld h 313 2) (ld h 324 i)
  | 15 => rng i (ld h 313 3) (ld h 325 i) | 16 => rng i (ld h 313 3) (ld h 326 i) | 17 => rng i (ld h 313 3) (ld h 327 i)
  | 18 => rng i 100 (bI (hailAt h i))
  | 19 => ld h 330 0 - ld h 329 0 | 20 => ld h 330 1 - ld h 329 1 | 21 => ld h 330 2 - ld h 329 2
  | 22 => rng i (ld h 330 0 - ld h 329 0) (ld h 331 (ld h 329 0 + i)) | 23 => rng i (ld h 330 0 - ld h 329 0) (ld h 332 (ld h 329 0 + i))
  | 24 => rng i (ld h 330 1 - ld h 329 1) (ld h 331 (ld h 329 1 + i)) | 25 => rng i (ld h 330 1 - ld h 329 1) (ld h 332 (ld h 329 1 + i))
  | 26 => rng i (ld h 330 2 - ld h 329 2) (ld h 331 (ld h 329 2 + i)) | 27 => rng i (ld h 330 2 - ld h 329 2) (ld h 332 (ld h 329 2 + i))
  | _ => 0
def sR (h : Hp) (a ns np : Int) : Wd := fun f i => match f with
  | 0 => ld h 333 a | 1 => ld h 334 a | 2 => ld h 335 a | 3 => ld h 336 a | 4 => and32 (ld h 337 a) (xor32 (ld h 336 a) (-1)) | 5 => ld h 342 a
  | 6 => rng i ns (ld h 338 (5 * a + i)) | 7 => rng i np (ld h 339 (10 * a + i)) | 8 => rng i np (ld h 340 (10 * a + i)) | 9 => rng i np (ld h 341 (10 * a + i))
  | 10 => rng i (ld h 342 a) (ld h 343 (40 * a + i)) | 11 => rng i (ld h 342 a) (ld h 344 (40 * a + i))
  | _ => 0
/-! what is asked of them -/
def qFea (T : Wd) (i : Int) : Bool := !decide (i < 0) && decide (i < T 0 0)
def qSit (T : Wd) (i : Int) : Bool := !decide (i < 0) && decide (i < T 1 0)
def qPie (T : Wd) (i : Int) : Bool := !decide (i < 0) && decide (i < T 2 0)
theorem qFea_iff {T : Wd} {i : Int} : qFea T i = true ↔ 0 ≤ i ∧ i < T 0 0 := by unfold qFea; simp
theorem qSit_iff {T : Wd} {i : Int} : qSit T i = true ↔ 0 ≤ i ∧ i < T 1 0 := by unfold qSit; simp
theorem qPie_iff {T : Wd} {i : Int} : qPie T i = true ↔ 0 ≤ i ∧ i < T 2 0 := by unfold qPie; simp
def qLiv (S : Wd) (i : Int) : Bool := decide (and32 (shr32 (S 2 0) i) 1 = 0)
def qLap (S : Wd) (i : Int) : Bool := !decide (and32 (shr32 (S 3 0) i) 1 = 0)
def tSize (T : Wd) (p : Int) : Int := T 6 (T 13 p)
def tBase (T : Wd) (p : Int) : Int := T 5 (T 13 p)
def qDone (T S : Wd) (p : Int) : Bool := !decide (S 8 p < tSize T p)
def qOpen (T S : Wd) (p : Int) : Bool := !qLap S p && !qDone T S p && qLiv S (T 12 p)
/-- the first of n from k on that f finds, -1 without -/
def fnd (f : Int → Bool) : Nat → Int → Int
  | 0, _ => -1
  | n + 1, k => if f k = true then k else fnd f n (k + 1)
/-- how many of n from k on, added to a -/
def cnf (f : Int → Bool) : Nat → Int → Int → Int
  | 0, _, a => a
  | n + 1, k, a => cnf f n (k + 1) (if f k = true then a + 1 else a)
def sOwned (T S : Wd) (s : Int) : Int := cnf (fun p => decide (S 9 p = s)) (T 2 0).toNat 0 0
def sDones (T S : Wd) : Int := cnf (fun p => qDone T S p) (T 2 0).toNat 0 0
theorem cnf_bd (f : Int → Bool) : ∀ (n : Nat) (k a : Int), a ≤ cnf f n k a ∧ cnf f n k a ≤ a + n
  | 0, k, a => by unfold cnf; omega
  | n + 1, k, a => by
    unfold cnf
    have := cnf_bd f n (k + 1) (if f k = true then a + 1 else a)
    split at this <;> split <;> first | omega | (rename_i h1 h2; exact absurd h1 h2) | (rename_i h1 h2; exact absurd h2 h1)
/-- sums of purses -/
def smf (f : Int → Int) : Nat → Int → Int → Int
  | 0, _, a => a
  | n + 1, k, a => smf f n (k + 1) (w32 (a + f k))
def sPurses (T S : Wd) : Int := smf (fun s => S 6 s) (T 1 0).toNat 0 0
def tShared (T : Wd) (one other f : Int) : Bool := decide (0 ≤ fnd (fun k => decide (T 17 k = f) && ((decide (T 15 k = one) && decide (T 16 k = other)) || (decide (T 15 k = other) && decide (T 16 k = one)))) (T 3 0).toNat 0)
/-! bits -/
theorem and32_1 (x : Int) : and32 x 1 = x % 2 := by
  unfold and32
  have e : (Int32.ofInt x &&& Int32.ofInt 1).toInt = ((Int32.ofInt x).toBitVec &&& 1#32).toInt := rfl
  rw [e]
  have hx : (Int32.ofInt x).toBitVec = BitVec.ofInt 32 x := rfl
  rw [hx]
  rw [BitVec.toInt_eq_toNat_of_lt]
  · rw [BitVec.toNat_and, BitVec.toNat_ofInt]
    have : (1#32).toNat = 1 := rfl
    rw [this, Nat.and_one_is_mod]
    omega
  · rw [BitVec.toNat_and]
    have : (1#32).toNat = 1 := rfl
    rw [this, Nat.and_one_is_mod]
    omega
