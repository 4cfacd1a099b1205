/-! A small machine of our own: values are (tag, number): tag 0 an int, 1 a long, 2 a reference (0 null, k > 0 the k-th object made since the law began, below 0 a constant), 9 nothing known. -/
abbrev MV := Nat × Int
abbrev Hp := (Int → Int → Int) × (List (Nat × Nat) × (Nat × Nat))
abbrev MR := MV × Hp
def w32 (x : Int) : Int := (x + 2147483648) % 4294967296 - 2147483648
def w64 (x : Int) : Int := (x + 9223372036854775808) % 18446744073709551616 - 9223372036854775808
def and32 (x y : Int) : Int := (Int32.ofInt x &&& Int32.ofInt y).toInt
def or32 (x y : Int) : Int := (Int32.ofInt x ||| Int32.ofInt y).toInt
def xor32 (x y : Int) : Int := (Int32.ofInt x ^^^ Int32.ofInt y).toInt
def shl32 (x y : Int) : Int := w32 (x * 2 ^ (y % 32).toNat)
def shr32 (x y : Int) : Int := x / 2 ^ (y % 32).toNat
def ushr32 (x y : Int) : Int := w32 ((x % 4294967296) / 2 ^ (y % 32).toNat)
def lcm (x y : Int) : Int := if x < y then -1 else if x = y then 0 else 1
/-- shapes: kind and size; kinds 0 int[] 1 long[] 2 boolean[] 3 char[] 4 byte[] 5 Token[] 6 Law[] 7 State[] 8 int[][]; 20 and up: classes -/
def strLens : List Nat := [14, 12, 106, 0, 3, 2, 3, 7, 6, 5, 3, 4, 4, 4, 3, 5, 4, 3, 4, 4, 5, 5, 3, 4, 4]
def csh (L : Nat) (a : Int) : Option (Nat × Nat) :=
  if -38 ≤ a then some (32, 4) else if a = -50 then some (0, L) else if a = -40 then some (5, 38) else if a = -41 then some (0, 38)
  else if -125 < a ∧ a ≤ -100 then some (33, 2) else if -225 < a ∧ a ≤ -200 then some (4, strLens.getD (-200 - a).toNat 0) else none
def shp (h : Hp) (a : Int) : Option (Nat × Nat) := if 0 < a then h.2.1[(a - 1).toNat]? else if a = 0 then none else csh h.2.2.1 a
def okF (h : Hp) (a : Int) (c : Nat) : Bool := (shp h a).map Prod.fst == some c
def okW (h : Hp) (a : Int) (c : Nat) : Bool := decide (0 < a) && okF h a c
def len (h : Hp) (a : Int) : Int := ((((shp h a).map Prod.snd).getD 0 : Nat) : Int)
def ld (h : Hp) (a i : Int) : Int := h.1 a i
def st (h : Hp) (a i v : Int) : Hp := (fun b j => if b = a ∧ j = i then v else h.1 b j, h.2)
def cpy (h : Hp) (s sp t tp n : Int) : Hp := (fun b j => if b = t ∧ tp ≤ j ∧ j < tp + n then h.1 s (sp + (j - tp)) else h.1 b j, h.2)
def nxt (h : Hp) : Int := ((h.2.1.length + 1 : Nat) : Int)
def alc (h : Hp) (k n : Nat) : Hp := (h.1, h.2.1 ++ [(k, n)], h.2.2)
/-- new int[n][m]: the outer row, then the inner ones -/
def mal (h : Hp) (n m : Nat) : Hp := (fun b j => if b = nxt h ∧ 0 ≤ j ∧ j < n then nxt h + 1 + j else h.1 b j, h.2.1 ++ (8, n) :: List.replicate n (0, m), h.2.2)
/-- no exception has been made yet -/
def okN (h : Hp) : Bool := h.2.2.2 == 0
/-- an exception is made -/
def thr (h : Hp) : Hp := (h.1, h.2.1, h.2.2.1, h.2.2.2 + 1)
def isTok (a : Int) : Bool := decide (-38 ≤ a ∧ a ≤ -1)
def swk {R : Type} (K : Int → Option R) (dflt x : Int) : List Int → Option R
  | k :: t :: r => if x = k then K t else swk K dflt x r
  | _ => K dflt
/-- a store at k doesn't cut a long that begins ahead of it -/
def okS (ls : List MV) (k : Nat) : Bool := match k with
  | 0 => true
  | j + 1 => match ls[j]? with | some (1, _) => false | _ => true
/-- the depth that values take on the machine's stack -/
def rsum : List MV → Nat
  | [] => 0
  | v :: r => (if v.1 = 1 then 2 else 1) + rsum r
def atk (a : ArrayType) : Nat := match a with
  | .boolean => 2 | .char => 3 | .int => 0 | .long => 1 | .byte => 4 | _ => 99
/-- one instruction, with what comes behind it (K), a method's end (T), a call (Cl: callee, arguments, the tag of its answer or 9, the frame behind it) -/
def exK {R : Type} (K : Nat → List MV → List MV → Hp → Option R) (T : MV → Hp → Option R) (Cl : Nat → List MV → Nat → Nat → List MV → List MV → Hp → Option R) (ins : Instr) (ax : List Int) (pc : Nat) (ls st0 : List MV) (h : Hp) : Option R :=
  match ins with
  | .aload_n k => match ls[k.val]? with | some (2, x) => K (pc + 1) ls ((2, x) :: st0) h | _ => none
  | .aload k => match ls[k]? with | some (2, x) => K (pc + 2) ls ((2, x) :: st0) h | _ => none
  | .iload_n k => match ls[k.val]? with | some (0, x) => K (pc + 1) ls ((0, x) :: st0) h | _ => none
  | .iload k => match ls[k]? with | some (0, x) => K (pc + 2) ls ((0, x) :: st0) h | _ => none
  | .lload_n k => match ls[k.val]? with | some (1, x) => K (pc + 1) ls ((1, x) :: st0) h | _ => none
  | .lload k => match ls[k]? with | some (1, x) => K (pc + 2) ls ((1, x) :: st0) h | _ => none
  | .istore_n k => match st0 with | (0, x) :: r => if okS ls k.val = true ∧ k.val < ls.length then K (pc + 1) (ls.set k.val (0, x)) r h else none | _ => none
  | .istore k => match st0 with | (0, x) :: r => if okS ls k = true ∧ k < ls.length then K (pc + 2) (ls.set k (0, x)) r h else none | _ => none
  | .astore_n k => match st0 with | (2, x) :: r => if okS ls k.val = true ∧ k.val < ls.length then K (pc + 1) (ls.set k.val (2, x)) r h else none | _ => none
  | .astore k => match st0 with | (2, x) :: r => if okS ls k = true ∧ k < ls.length then K (pc + 2) (ls.set k (2, x)) r h else none | _ => none
  | .lstore_n k => match st0 with | (1, x) :: r => if okS ls k.val = true ∧ k.val + 1 < ls.length then K (pc + 1) ((ls.set k.val (1, x)).set (k.val + 1) (9, 0)) r h else none | _ => none
  | .lstore k => match st0 with | (1, x) :: r => if okS ls k = true ∧ k + 1 < ls.length then K (pc + 2) ((ls.set k (1, x)).set (k + 1) (9, 0)) r h else none | _ => none
  | .iinc k n => match ls[k]? with | some (0, x) => if okS ls k = true then K (pc + 3) (ls.set k (0, w32 (x + n))) st0 h else none | _ => none
  | .iconst n => K (pc + 1) ls ((0, n) :: st0) h
  | .bipush n => K (pc + 2) ls ((0, n) :: st0) h
  | .sipush n => K (pc + 3) ls ((0, n) :: st0) h
  | .lconst n => K (pc + 1) ls ((1, ((n.val : Nat) : Int)) :: st0) h
  | .ldc _ => match ax with | [t, v] => K (pc + 2) ls ((t.toNat, v) :: st0) h | _ => none
  | .ldc2_w _ => match ax with | [v] => K (pc + 3) ls ((1, v) :: st0) h | _ => none
  | .dup => match st0 with | (0, x) :: r => K (pc + 1) ls ((0, x) :: (0, x) :: r) h | (2, x) :: r => K (pc + 1) ls ((2, x) :: (2, x) :: r) h | _ => none
  | .dup2 => match st0 with | (0, x) :: (2, y) :: r => K (pc + 1) ls ((0, x) :: (2, y) :: (0, x) :: (2, y) :: r) h | _ => none
  | .pop => match st0 with | (0, _) :: r => K (pc + 1) ls r h | _ => none
  | .iadd => match st0 with | (0, y) :: (0, x) :: r => K (pc + 1) ls ((0, w32 (x + y)) :: r) h | _ => none
  | .isub => match st0 with | (0, y) :: (0, x) :: r => K (pc + 1) ls ((0, w32 (x - y)) :: r) h | _ => none
  | .imul => match st0 with | (0, y) :: (0, x) :: r => K (pc + 1) ls ((0, w32 (x * y)) :: r) h | _ => none
  | .idiv => match st0 with | (0, y) :: (0, x) :: r => if y = 0 then none else K (pc + 1) ls ((0, w32 (x.tdiv y)) :: r) h | _ => none
  | .irem => match st0 with | (0, y) :: (0, x) :: r => if y = 0 then none else K (pc + 1) ls ((0, x.tmod y) :: r) h | _ => none
  | .iand => match st0 with | (0, y) :: (0, x) :: r => K (pc + 1) ls ((0, and32 x y) :: r) h | _ => none
  | .ior => match st0 with | (0, y) :: (0, x) :: r => K (pc + 1) ls ((0, or32 x y) :: r) h | _ => none
  | .ixor => match st0 with | (0, y) :: (0, x) :: r => K (pc + 1) ls ((0, xor32 x y) :: r) h | _ => none
  | .ishl => match st0 with | (0, y) :: (0, x) :: r => K (pc + 1) ls ((0, shl32 x y) :: r) h | _ => none
  | .ishr => match st0 with | (0, y) :: (0, x) :: r => K (pc + 1) ls ((0, shr32 x y) :: r) h | _ => none
  | .iushr => match st0 with | (0, y) :: (0, x) :: r => K (pc + 1) ls ((0, ushr32 x y) :: r) h | _ => none
  | .ladd => match st0 with | (1, y) :: (1, x) :: r => K (pc + 1) ls ((1, w64 (x + y)) :: r) h | _ => none
  | .lsub => match st0 with | (1, y) :: (1, x) :: r => K (pc + 1) ls ((1, w64 (x - y)) :: r) h | _ => none
  | .lmul => match st0 with | (1, y) :: (1, x) :: r => K (pc + 1) ls ((1, w64 (x * y)) :: r) h | _ => none
  | .ldiv => match st0 with | (1, y) :: (1, x) :: r => if y = 0 then none else K (pc + 1) ls ((1, w64 (x.tdiv y)) :: r) h | _ => none
  | .lneg => match st0 with | (1, x) :: r => K (pc + 1) ls ((1, w64 (-x)) :: r) h | _ => none
  | .lcmp => match st0 with | (1, y) :: (1, x) :: r => K (pc + 1) ls ((0, lcm x y) :: r) h | _ => none
  | .i2l => match st0 with | (0, x) :: r => K (pc + 1) ls ((1, x) :: r) h | _ => none
  | .l2i => match st0 with | (1, x) :: r => K (pc + 1) ls ((0, w32 x) :: r) h | _ => none
  | .i2c => match st0 with | (0, x) :: r => K (pc + 1) ls ((0, x % 65536) :: r) h | _ => none
  | .goto _ => match ax with | [t] => K t.toNat ls st0 h | _ => none
  | .ifCond c _ => match ax, st0 with
    | [t], (0, x) :: r => match c with
      | .eq => if x = 0 then K t.toNat ls r h else K (pc + 3) ls r h
      | .ne => if x = 0 then K (pc + 3) ls r h else K t.toNat ls r h
      | .lt => if x < 0 then K t.toNat ls r h else K (pc + 3) ls r h
      | .ge => if x < 0 then K (pc + 3) ls r h else K t.toNat ls r h
      | .gt => if 0 < x then K t.toNat ls r h else K (pc + 3) ls r h
      | .le => if 0 < x then K (pc + 3) ls r h else K t.toNat ls r h
    | _, _ => none
  | .if_icmp c _ => match ax, st0 with
    | [t], (0, y) :: (0, x) :: r => match c with
      | .eq => if x = y then K t.toNat ls r h else K (pc + 3) ls r h
      | .ne => if x = y then K (pc + 3) ls r h else K t.toNat ls r h
      | .lt => if x < y then K t.toNat ls r h else K (pc + 3) ls r h
      | .ge => if x < y then K (pc + 3) ls r h else K t.toNat ls r h
      | .gt => if y < x then K t.toNat ls r h else K (pc + 3) ls r h
      | .le => if y < x then K (pc + 3) ls r h else K t.toNat ls r h
    | _, _ => none
  | .if_acmp c _ => match ax, st0 with
    | [t], (2, y) :: (2, x) :: r => if isTok x = true ∧ isTok y = true then match c with
      | .eq => if x = y then K t.toNat ls r h else K (pc + 3) ls r h
      | .ne => if x = y then K (pc + 3) ls r h else K t.toNat ls r h
      else none
    | _, _ => none
  | .ifnull _ => match ax, st0 with | [t], (2, x) :: r => if x = 0 then K t.toNat ls r h else K (pc + 3) ls r h | _, _ => none
  | .ifnonnull _ => match ax, st0 with | [t], (2, x) :: r => if x = 0 then K (pc + 3) ls r h else K t.toNat ls r h | _, _ => none
  | .tableswitch _ _ _ _ => match ax, st0 with | dflt :: ks, (0, x) :: r => swk (fun t => K t.toNat ls r h) dflt x ks | _, _ => none
  | .lookupswitch _ _ => match ax, st0 with | dflt :: ks, (0, x) :: r => swk (fun t => K t.toNat ls r h) dflt x ks | _, _ => none
  | .getstatic _ => match ax with | [t, v] => K (pc + 3) ls ((t.toNat, v) :: st0) h | _ => none
  | .getfield _ => match ax, st0 with | [c, k, t], (2, a) :: r => if okF h a c.toNat = true then K (pc + 3) ls ((t.toNat, ld h a k) :: r) h else none | _, _ => none
  | .putfield _ => match ax, st0 with
    | [c, k, t, z], (u, v) :: (2, a) :: r => if u = t.toNat then if okW h a c.toNat = true then if z = 0 ∨ v = 0 ∨ v = 1 then K (pc + 3) ls r (st h a k v) else none else none else none
    | _, _ => none
  | .new _ => match ax with
    | [c, n] => if okN h = true then K (pc + 3) ls ((2, nxt h) :: st0) (alc h c.toNat n.toNat) else none
    | [e] => match st0 with | [] => T (0, e) (thr h) | _ => none
    | _ => none
  | .newarray t => match st0 with | (0, n) :: r => if okN h = true then if 0 ≤ n ∧ n ≤ 100000 then K (pc + 2) ls ((2, nxt h) :: r) (alc h (atk t) n.toNat) else none else none | _ => none
  | .anewarray _ => match ax, st0 with | [k], (0, n) :: r => if okN h = true then if 0 ≤ n ∧ n ≤ 100000 then K (pc + 3) ls ((2, nxt h) :: r) (alc h k.toNat n.toNat) else none else none | _, _ => none
  | .multianewarray _ _ => match st0 with | (0, m) :: (0, n) :: r => if okN h = true then if (0 ≤ n ∧ n ≤ 1000) ∧ 0 ≤ m ∧ m ≤ 1000 then K (pc + 4) ls ((2, nxt h) :: r) (mal h n.toNat m.toNat) else none else none | _ => none
  | .arraylength => match ax, st0 with | [k], (2, a) :: r => if okF h a k.toNat = true then K (pc + 1) ls ((0, len h a) :: r) h else none | _, _ => none
  | .iaload => match st0 with | (0, i) :: (2, a) :: r => if okF h a 0 = true then if 0 ≤ i ∧ i < len h a then K (pc + 1) ls ((0, ld h a i) :: r) h else none else none | _ => none
  | .laload => match st0 with | (0, i) :: (2, a) :: r => if okF h a 1 = true then if 0 ≤ i ∧ i < len h a then K (pc + 1) ls ((1, ld h a i) :: r) h else none else none | _ => none
  | .caload => match st0 with | (0, i) :: (2, a) :: r => if okF h a 3 = true then if 0 ≤ i ∧ i < len h a then K (pc + 1) ls ((0, ld h a i) :: r) h else none else none | _ => none
  | .baload => match ax, st0 with | [k], (0, i) :: (2, a) :: r => if okF h a k.toNat = true then if 0 ≤ i ∧ i < len h a then K (pc + 1) ls ((0, ld h a i) :: r) h else none else none | _, _ => none
  | .aaload => match ax, st0 with | [k], (0, i) :: (2, a) :: r => if okF h a k.toNat = true then if 0 ≤ i ∧ i < len h a then K (pc + 1) ls ((2, ld h a i) :: r) h else none else none | _, _ => none
  | .iastore => match st0 with | (0, v) :: (0, i) :: (2, a) :: r => if okW h a 0 = true then if 0 ≤ i ∧ i < len h a then K (pc + 1) ls r (st h a i v) else none else none | _ => none
  | .lastore => match st0 with | (1, v) :: (0, i) :: (2, a) :: r => if okW h a 1 = true then if 0 ≤ i ∧ i < len h a then K (pc + 1) ls r (st h a i v) else none else none | _ => none
  | .castore => match st0 with | (0, v) :: (0, i) :: (2, a) :: r => if okW h a 3 = true then if 0 ≤ i ∧ i < len h a then K (pc + 1) ls r (st h a i (v % 65536)) else none else none | _ => none
  | .bastore => match st0 with | (0, v) :: (0, i) :: (2, a) :: r => if okW h a 2 = true then if 0 ≤ i ∧ i < len h a then if v = 0 ∨ v = 1 then K (pc + 1) ls r (st h a i v) else none else none else none | _ => none
  | .aastore => match ax, st0 with | [k, c], (2, v) :: (0, i) :: (2, a) :: r => if okW h a k.toNat = true then if 0 ≤ i ∧ i < len h a then if okF h v c.toNat = true then K (pc + 1) ls r (st h a i v) else none else none else none | _, _ => none
  | .invokespecial _ => match ax with
    | [] => match st0 with | (2, a) :: r => if a = 0 then none else if rsum r ≤ 8 then K (pc + 3) ls r h else none | _ => none
    | [y, n, q] => match (st0.take n.toNat).reverse with
      | (2, a) :: as => if a = 0 then none else if n.toNat ≤ st0.length ∧ rsum (st0.drop n.toNat) ≤ 8 then Cl y.toNat ((2, a) :: as) q.toNat (pc + 3) ls (st0.drop n.toNat) h else none
      | _ => none
    | _ => none
  | .invokevirtual _ => match ax with
    | [y, n, q, c] => match (st0.take n.toNat).reverse with
      | (2, a) :: as => if okF h a c.toNat = true then if n.toNat ≤ st0.length ∧ rsum (st0.drop n.toNat) ≤ 8 then Cl y.toNat ((2, a) :: as) q.toNat (pc + 3) ls (st0.drop n.toNat) h else none else none
      | _ => none
    | _ => none
  | .invokestatic _ => match ax with
    | [y, n, q] => if n.toNat ≤ st0.length ∧ rsum (st0.drop n.toNat) ≤ 8 then Cl y.toNat (st0.take n.toNat).reverse q.toNat (pc + 3) ls (st0.drop n.toNat) h else none
    | [] => match st0 with
      | (0, n) :: (0, tp) :: (2, t) :: (0, sp) :: (2, s) :: r => if okF h s 0 = true then if okW h t 0 = true then if 0 ≤ n ∧ 0 ≤ sp ∧ 0 ≤ tp ∧ sp + n ≤ len h s ∧ tp + n ≤ len h t then if rsum r ≤ 8 then K (pc + 3) ls r (cpy h s sp t tp n) else none else none else none else none
      | _ => none
    | _ => none
  | .ireturn => match ax, st0 with
    | [t], [(0, x)] => if t = 1 then (if x = 0 ∨ x = 1 then T (0, x) h else none) else if t = 2 then (if 0 ≤ x ∧ x < 65536 then T (0, x) h else none) else if t = 3 then (if -128 ≤ x ∧ x < 128 then T (0, x) h else none) else T (0, x) h
    | _, _ => none
  | .lreturn => match st0 with | [(1, x)] => T (1, x) h | _ => none
  | .areturn => match st0 with | [(2, x)] => T (2, x) h | _ => none
  | .return_ => match st0 with | [] => T (9, 0) h | _ => none
  | _ => none
