/-! layer 2: the tokens of a tape -/
/-! strings -/
def sby (k : Nat) : List Int := strBy.getD k []
theorem sby_tb : (List.range 25).all (fun k => decide ((sby k).length = strLens.getD k 0) && (sby k).all (fun b => decide (and32 b 255 % 65536 = b) && decide (0 ≤ b ∧ b < 128))) = true := by decide +kernel
section SG
variable {h : Hp}
theorem sg_f {k : Nat} (hk : k < 25) : okF h (-100 - (k : Int)) 33 = true ∧ okF h (-200 - (k : Int)) 4 = true ∧ len h (-200 - (k : Int)) = (sby k).length := by
  have t := List.all_eq_true.mp sby_tb k (List.mem_range.mpr hk)
  rw [Bool.and_eq_true] at t
  have tl := of_decide_eq_true t.1
  have h1 : shp h (-100 - (k : Int)) = some (33, 2) := by
    unfold shp; rw [if_neg (by omega), if_neg (by omega)]; unfold csh
    rw [if_neg (by omega), if_neg (by omega), if_neg (by omega), if_neg (by omega), if_pos (by omega)]
  have h2 : shp h (-200 - (k : Int)) = some (4, strLens.getD k 0) := by
    unfold shp; rw [if_neg (by omega), if_neg (by omega)]; unfold csh
    rw [if_neg (by omega), if_neg (by omega), if_neg (by omega), if_neg (by omega), if_neg (by omega), if_pos (by omega), show (-200 - (-200 - (k : Int))).toNat = k by omega]
  refine ⟨by unfold okF; rw [h1]; rfl, by unfold okF; rw [h2]; rfl, ?_⟩
  unfold len; rw [h2, tl]; rfl
theorem sg_ld (w : WF h) {k : Nat} (hk : k < 25) : ld h (-100 - (k : Int)) 0 = -200 - (k : Int) ∧ ld h (-100 - (k : Int)) 1 = 0 ∧ ∀ j, ld h (-200 - (k : Int)) j = (sby k).getD j.toNat 0 := by
  have g : ∀ j : Int, ld h (-100 - (k : Int)) j = if j = 0 then (-100 - (k : Int)) - 100 else 0 := fun j => by
    show h.1 _ j = _
    rw [w.2.2 _ j (by omega) (by omega)]; unfold gcmC
    rw [if_neg (by omega), if_neg (by omega), if_neg (by omega), if_neg (by omega), if_pos (by omega)]
  refine ⟨by rw [g]; show -100 - (k : Int) - 100 = _; omega, by rw [g]; rfl, fun j => ?_⟩
  show h.1 _ j = _
  rw [w.2.2 _ j (by omega) (by omega)]; unfold gcmC
  rw [if_neg (by omega), if_neg (by omega), if_neg (by omega), if_neg (by omega), if_neg (by omega), show (-200 - (-200 - (k : Int))).toNat = k by omega]
  rfl
theorem kq_249 (w : WF h) {k : Nat} (hk : k < 25) (d : Nat) : C d 249 [(2, -100 - (k : Int))] h = some ((0, 0), h) := by
  rw [ce_249, e249_0, if_neg (by decide), if_pos (sg_f hk).1, (sg_ld w hk).2.1, e249_14, if_pos (by decide)]
theorem kq_247 (w : WF h) {k : Nat} (hk : k < 25) (d : Nat) : C (d + 1) 247 [(2, -100 - (k : Int))] h = some ((0, ((sby k).length : Int)), h) := by
  have s0 : ∀ x : Nat, shr32 (x : Int) 0 = x := fun x => by unfold shr32; rw [show ((0 : Int) % 32).toNat = 0 from rfl, Int.pow_zero]; omega
  rw [ce_247, e247_0, if_pos (sg_f hk).1, (sg_ld w hk).1, if_pos (sg_f hk).2.1, if_pos (sg_f hk).1, Cl_eq _ (kq_249 w hk d), (sg_f hk).2.2, s0]
theorem kq_250 (w : WF h) {k : Nat} (hk : k < 25) (d : Nat) : C d 250 [(2, -100 - (k : Int))] h = some ((0, 1), h) := by
  rw [ce_250, e250_0, if_neg (by decide), if_pos (sg_f hk).1, (sg_ld w hk).2.1, if_pos rfl, e250_13, e250_18, if_pos (by decide)]
theorem e253x_0 (d : Nat) (x0 x1 : Int) (h : Hp) : V d 253 0 [(0, x0), (0, x1), (8, 0)] [] h = (if x0 < (0 : Int) then (V d 253 9 [(0, x0), (0, x1), (8, 0)] [] h) else (if x0 < x1 then (V d 253 16 [(0, x0), (9, 0), (9, 0)] [] h) else (V d 253 9 [(0, x0), (0, x1), (8, 0)] [] h))) := (V_blk d 253 [(16, [1, 2])] (by decide +kernel) [(.iload_n 0, 1, [], []), (.ifCond .lt 8, 3, [], [9]), (.iload_n 0, 1, [], []), (.iload_n 1, 1, [], []), (.if_icmp .lt 10, 3, [], [16])] _ _ _ _ (by decide +kernel)).trans rfl
theorem ce_253x (d : Nat) (x0 x1 : Int) (h : Hp) : C d 253 [(0, x0), (0, x1), (8, 0)] h = V d 253 0 [(0, x0), (0, x1), (8, 0)] [] h := (C_of (y := 253) (as := [(0, x0), (0, x1), (8, 0)]) (show (3 : Nat) ≤ nlo 253 by decide +kernel)).trans (by unfold loc0; rw [show nlo 253 = 3 by decide +kernel]; rfl)
theorem kq_253 {i n : Int} (hi : 0 ≤ i ∧ i < n) (d : Nat) : C d 253 [(0, i), (0, n), (8, 0)] h = some ((0, i), h) := by
  rw [ce_253x, e253x_0, if_neg (by omega), if_pos hi.2, e253_16]
theorem kq_251 {i n : Int} (hi : 0 ≤ i ∧ i < n) (d : Nat) : C (d + 1) 251 [(0, i), (0, n)] h = some ((9, 0), h) := by
  rw [ce_251, e251_0, Cl_eq _ (kq_253 hi d), e251_9]
theorem kq_248 (w : WF h) {k : Nat} (hk : k < 25) {j : Int} (hj : 0 ≤ j ∧ j < (sby k).length) (d : Nat) : C (d + 3) 248 [(2, -100 - (k : Int)), (0, j)] h = some ((0, (sby k).getD j.toNat 0), h) := by
  obtain ⟨f1, f2, f3⟩ := sg_f (h := h) hk
  obtain ⟨g1, g2, g3⟩ := sg_ld w hk
  have t := List.all_eq_true.mp sby_tb k (List.mem_range.mpr hk)
  rw [Bool.and_eq_true] at t
  have hm : (sby k).getD j.toNat 0 ∈ sby k := by
    rw [List.getD_eq_getElem?_getD, List.getElem?_eq_getElem (show j.toNat < (sby k).length by omega)]
    exact List.getElem_mem _
  have tb := List.all_eq_true.mp t.2 _ hm
  rw [Bool.and_eq_true, decide_eq_true_eq, decide_eq_true_eq] at tb
  have h252 : C (d + 2) 252 [(2, -200 - (k : Int)), (0, j)] h = some ((0, (sby k).getD j.toNat 0), h) := by
    rw [ce_252, e252_0, if_pos f2, f3, Cl_eq _ (kq_251 hj d), if_pos f2, f3, if_pos hj, g3, tb.1, if_pos (by omega)]
  rw [ce_248, e248_0, if_pos f1, Cl_eq _ (kq_250 w hk (d + 2)), if_neg (by decide), if_pos f1, g1, Cl_eq _ h252, if_pos (by omega)]
end SG
/-! the tape as both read it -/
def cws (c : Int) : Bool := decide (c = 10) || decide (c = 32)
def clo (c : Int) : Bool := !decide (c < 97) && !decide (122 < c)
def cdg (c : Int) : Bool := !decide (c < 48) && !decide (57 < c)
/-- the end of a run of signs -/
def lxr (p : Int → Bool) (tp : Int → Int) : Nat → Int → Int
  | 0, i => i
  | n + 1, i => if p (tp i) = true then lxr p tp n (i + 1) else i
theorem lxr_b (p : Int → Bool) (tp : Int → Int) : ∀ (n : Nat) (i : Int), i ≤ lxr p tp n i ∧ lxr p tp n i ≤ i + n
  | 0, i => by unfold lxr; omega
  | n + 1, i => by
    unfold lxr
    have := lxr_b p tp n (i + 1)
    split <;> omega
/-- the place of the next token -/
def lxP (tp : Int → Int) (n i : Int) : Int := lxr cws tp (n - i).toNat i
def lxE (p : Int → Bool) (tp : Int → Int) (n i : Int) : Int := lxr p tp (n - i).toNat i
def lxN (tp : Int → Int) (e : Int) : Nat → Int → Int → Int
  | 0, _, v => v
  | n + 1, i, v => lxN tp e n (i + 1) (imin 10000 (v * 10 + (tp i - 48)))
/-- how a token of the class is spelled -/
def sidx (o : Int) : Nat := (-100 - (tokFd.getD o.toNat []).getD 0 0).toNat
def spm (tp : Int → Int) (pl ln o : Int) : Bool := decide (((sby (sidx o)).length : Int) = ln) && !anyf (fun k => !decide ((sby (sidx o)).getD k.toNat 0 = tp (pl + k))) ln.toNat 0
def kwO (tp : Int → Int) (pl ln : Int) : Int := fnd (fun o => spm tp pl ln o) 38 0
def lxL (tp : Int → Int) (pl : Int) : Nat → Int → Int → Int
  | 0, _, v => v
  | n + 1, i, v => lxL tp pl n (i + 1) (if i - pl < 6 then or32 v (shl32 (tp i - 96) (5 * (5 - (i - pl)))) else v)
def lxS (c e : Int) : Int := if c = 59 then -5 else if c = 40 then -6 else if c = 41 then -7 else if c = 43 then -14 else if c = 45 then -15 else if c = 42 then -16 else if c = 47 then -17 else if c = 61 then -10 else if c = 60 then (if e = 61 then -9 else if e = 62 then -11 else -8) else if c = 62 then (if e = 61 then -12 else -13) else -2
