/-! what is made new -/
theorem nxt_rfo (g : GG) (h : Hp) : rfo g (nxt h) = some (gN g + h.2.1.length) := by
  have : nxt h = (h.2.1.length : Int) + 1 := by unfold nxt; omega
  rw [rfo_pos g (by omega)]
  congr 1
  omega
theorem wl_alc (g : GG) (h : Hp) (k n : Nat) : wl g (alc h k n) = wl g h ++ [(gN g + h.2.1.length, ent g (k, n) (h.1 ((h.2.1.length : Int) + 1)))] := by
  apply List.ext_getElem?
  intro i
  have hlen : (alc h k n).2.1 = h.2.1 ++ [(k, n)] := rfl
  rcases Nat.lt_trichotomy i h.2.1.length with hi | hi | hi
  · obtain ⟨sh, hsh⟩ : ∃ sh, h.2.1[i]? = some sh := ⟨_, List.getElem?_eq_getElem hi⟩
    rw [wl_at g (h := alc h k n) (sh := sh) (by rw [hlen, List.getElem?_append_left hi]; exact hsh), List.getElem?_append_left (by rw [wl_len]; exact hi), wl_at g hsh]
    rfl
  · subst hi
    rw [wl_at g (h := alc h k n) (sh := (k, n)) (by rw [hlen]; simp), List.getElem?_append_right (by rw [wl_len] <;> exact Nat.le_refl _), wl_len, Nat.sub_self]
    rfl
  · rw [List.getElem?_eq_none (by rw [wl_len, hlen, List.length_append]; simp only [List.length_singleton]; omega), List.getElem?_eq_none (by rw [List.length_append, wl_len]; simp only [List.length_singleton]; omega)]
theorem rok0 (sh : Nat × Nat) (j : Int) : rok sh j 0 :=
  ⟨fun _ => by unfold InR; omega, fun _ => by unfold InL; omega, fun _ => Or.inl rfl, fun _ => by omega, fun _ => ⟨fun _ => by unfold InR; omega, fun _ => by unfold InL; omega, fun _ => Or.inl rfl⟩⟩
/-- the relation behind an object made new -/
theorem RS_alc (g : GG) {h : Hp} {k n : Nat} {H H1 : Heap} (hR : RSl g h H) (hN : okN h = true) (hk : shok (k, n)) (z : H1.size = H.size + 1) (oq : ∀ q, q < H.size → H1[q]? = H[q]?)
    (he : va_at (gD g) CL (gN g + h.2.1.length, ent g (k, n) (fun _ => 0)) H1) : RSl g (alc h k n) H1 := by
  obtain ⟨r1, r2, r3, r4, r5, r6, r7, r8⟩ := hR
  have hx : h.2.2.2 = 0 := by unfold okN at hN; simpa using hN
  have hsz := r2 hx
  have hz0 : h.1 ((h.2.1.length : Int) + 1) = fun _ => 0 := by funext j; exact r6 _ j (by omega)
  have hlen : (alc h k n).2.1 = h.2.1 ++ [(k, n)] := rfl
  refine ⟨?_, fun _ => ?_, ?_, ?_, ?_, ?_, r7, r8⟩
  · rw [wl_alc, hz0]
    refine va_P.app (va_P.kept r1 (fun i q hq => oq q.1 ((r1 i q hq).lt))) (fun i q hq => ?_)
    have hi : i < 1 := (List.getElem?_eq_some_iff.mp hq).1
    rw [show i = 0 by omega] at hq
    cases hq
    exact he
  · rw [z, hsz, hlen, List.length_append]; rfl
  · rw [z, hlen, List.length_append]; show gN g + (h.2.1.length + 1) ≤ _; omega
  · intro sh hsh
    rw [hlen] at hsh
    rcases List.mem_append.mp hsh with q | q
    · exact r4 sh q
    · rw [List.mem_singleton.mp q]; exact hk
  · intro i sh hi j hj
    rw [hlen] at hi
    by_cases hl : i < h.2.1.length
    · rw [List.getElem?_append_left hl] at hi
      exact r5 i sh hi j hj
    · rw [List.getElem?_append_right (by omega)] at hi
      have h1 : i - h.2.1.length < 1 := (List.getElem?_eq_some_iff.mp hi).1
      have h2 : i = h.2.1.length := by omega
      show rok sh j (h.1 ((i : Int) + 1) j)
      rw [h2, hz0]
      exact rok0 sh j
  · intro a j ha
    rw [hlen, List.length_append] at ha
    exact r6 a j (by simp only [List.length_singleton] at ha; omega)
theorem cnt_alc (h : Hp) (k n : Nat) : cnt (alc h k n) = cnt h + 1 := by
  unfold cnt
  show (h.2.1 ++ [(k, n)]).length + h.2.2.2 = _
  rw [List.length_append]; simp only [List.length_singleton]; omega
theorem ssum_alc (h : Hp) (k n : Nat) : ssum (alc h k n) = ssum h + n := by
  unfold ssum
  show ((h.2.1 ++ [(k, n)]).map Prod.snd).sum + h.2.2.2 * EXS = _
  rw [List.map_append, List.sum_append]; simp only [List.map_cons, List.map_nil, List.sum_cons, List.sum_nil]; omega
section ST6
variable {p : Program} {l : Launch} {e : Env} {R : Room} {s : State} {m : MethodId} {args : Array Value} {below : List Frame} {meth : Method} {c : Code} {Q : State → Prop} {g : GG} {y c0 s0 pc : Nat} {ls r : List MV} {h : Hp}
theorem S_push {A : Nat → Prop} {H0 H H1 : Heap} {locs : List Loc} (hS : va_S A H0 H locs) (z : H.size ≤ H1.size) (oq : ∀ q, q < H.size → H1[q]? = H[q]?) : va_S A H0 H1 locs :=
  ⟨Nat.le_trans hS.1 z, fun q h1 h2 => (oq q (Nat.lt_of_lt_of_le h1 hS.1)).trans (hS.2.1 q h1 h2), hS.2.2⟩
theorem s_new (C : Ctx p l s m args meth c g y) {i cc : Nat} (hi : (yO y, i, cc) ∈ NW) (hN : okN h = true) (hRm : cnt h + 1 - c0 ≤ R.cells ∧ ssum h + nfl cc - s0 ≤ R.slots) (hdg : decode (yB y) pc = .ok (.new i, 3)) (kk : G2 p l e R s m args below meth c Q g y c0 s0 (pc + 3) ls ((2, nxt h) :: r) (alc h cc (nfl cc))) : G2 p l e R s m args below meth c Q g y c0 s0 pc ls r h := by
  intro lsR H locs hR hl hv hS hc hs
  obtain ⟨hx, hb, hml, hown, hts, hKN, -⟩ := C
  obtain ⟨w1, w2, w3⟩ := NW_ok _ hi
  have w1 : Cond.classLink (CN (yO y)) i (cnm cc) ∈ lw_tbl := w1
  have w2 : 20 ≤ cc := w2
  have w3 : cc < 32 := w3
  obtain ⟨q, p1, p2, p3, p4, p5, ⟨p6, p6'⟩, ⟨ty, p7, p7'⟩, p8, p9⟩ := CL_at w2 w3
  have hKn := hKN.1.1 (cc - 20) _ p1
  have hx0 : h.2.2.2 = 0 := by unfold okN at hN; simpa using hN
  have hsz := hR.2.1 hx0
  rw [← p2] at w1
  rw [← p3] at hRm
  refine W.newcK hx hb hown (hts _ w1 rfl) (hts _ p6 rfl) (hts _ p6' rfl) rfl hdg (by omega) (by omega) hKn.2.1 hsz fun H1 kC hkC e1 z1 o1 => ?_
  have hRn : RSl g (alc h cc (nfl cc)) H1 := by
    refine RS_alc g hR hN (Or.inr ⟨w2, w3, rfl⟩) (by rw [z1, hsz]) (fun q hq => o1 q (by rw [← hsz]; exact hq)) ?_
    have he : ent g (cc, nfl cc) (fun _ => 0) = .inr (cc - 20, (List.range (nfl cc)).map (fun j => fval g (dtg (fds cc j)) 0)) := by
      unfold ent; rw [if_neg (by show ¬ cc < 20; omega)]
    rw [he]
    refine ⟨_, p1, (u_born (ws := u_ws q.1 q.2.1 q.2.2) ty (fun w hw => hts w (p4 w hw) (lay_good hw)) (fun w hw => hw) hKn hkC e1 p7).to (fun j hj => ?_)⟩
    have hj' : j < nfl cc := by rw [← p3]; exact hj
    have ht := p7' j hj
    rw [show (q.2.1 j).2.2.1 = fds cc j by rw [p5 j]; rfl] at ht
    simp only [vp_V, List.getD_eq_getElem?_getD, List.getElem?_map, List.getElem?_range hj', Option.map_some, Option.getD_some]
    cases hty : ty j with
    | int => rw [hty] at ht; rw [show fds cc j = "I" by simpa [tyd] using ht]; rfl
    | boolean => rw [hty] at ht; rw [show fds cc j = "Z" by simpa [tyd] using ht]; rfl
    | long => rw [hty] at ht; rw [show fds cc j = "J" by simpa [tyd] using ht]; rfl
    | object n => rw [hty] at ht; rw [show dtg (fds cc j) = 2 by simpa [tyd] using ht]; rfl
    | array n => rw [hty] at ht; rw [show dtg (fds cc j) = 2 by simpa [tyd] using ht]; rfl
    | _ => rw [hty] at ht; cases ht
  have kk := kk lsR H1 locs hRn hl (vcs vok2 hv) (S_push hS (by rw [z1, hsz]; omega) (fun q hq => o1 q (by rw [← hsz]; exact hq))) (by rw [cnt_alc]; omega) (by rw [ssum_alc]; omega)
  rw [cnt_alc, ssum_alc] at kk
  have kk : W p l e R s m args below meth c H1 locs (cnt h + 1 - c0) (ssum h + nfl cc - s0) Q (F0 m (pc + 3) lsR (va_rf (rfo g (nxt h)) :: r.map (cv g))) := kk
  rw [nxt_rfo] at kk
  rw [p3]
  rw [show cnt h - c0 + 1 = cnt h + 1 - c0 by omega, show ssum h - s0 + nfl cc = ssum h + nfl cc - s0 by omega]
  exact kk
theorem tyK_atk (t : ArrayType) (h : atk t < 4) : newarray.typeOf t = tyK (atk t) := by
  cases t <;> first | rfl | (exact absurd h (by decide))
theorem TY_find (hKN : KN g s s.heap) {k : Nat} (hk : k < 4) : s.vm.findClass ("[" ++ (tyK k).toString) = some (gTY g k) := by
  have := (hKN.1.2 k _ (TYS_at g (show k < 9 by omega))).2
  have h4 : k = 0 ∨ k = 1 ∨ k = 2 ∨ k = 3 := by omega
  rcases h4 with rfl | rfl | rfl | rfl <;> exact this
theorem ac_in : ∀ k, k < 4 → Cond.arrayClass (tyK k) ∈ lw_tbl := by
  intro k hk
  have h4 : k = 0 ∨ k = 1 ∨ k = 2 ∨ k = 3 := by omega
  rcases h4 with rfl | rfl | rfl | rfl
  · exact AC_0
  · exact AC_1
  · exact AC_2
  · exact AC_3
theorem s_newarray (C : Ctx p l s m args meth c g y) {t : ArrayType} {n : Int} (ht : atk t < 4) (hn : 0 ≤ n ∧ n ≤ 100000) (hN : okN h = true) (hRm : cnt h + 1 - c0 ≤ R.cells ∧ ssum h + n.toNat - s0 ≤ R.slots) (hdg : decode (yB y) pc = .ok (.newarray t, 2)) (kk : G2 p l e R s m args below meth c Q g y c0 s0 (pc + 2) ls ((2, nxt h) :: r) (alc h (atk t) n.toNat)) : G2 p l e R s m args below meth c Q g y c0 s0 pc ls ((0, n) :: r) h := by
  intro lsR H locs hR hl hv hS hc hs
  obtain ⟨hx, hb, hml, hown, hts, hKN, -⟩ := C
  have hx0 : h.2.2.2 = 0 := by unfold okN at hN; simpa using hN
  have hsz := hR.2.1 hx0
  have hnT : (i32 n).toInt = n := i32_T (in0 hv)
  have hk9 : atk t < 9 := by omega
  have hcl : (i32 n).toNatClampNeg = n.toNat := by show (i32 n).toInt.toNat = _; rw [hnT]
  have hcb : n.toNat * componentBytes (newarray.typeOf t) ≤ 536870912 := by
    have : componentBytes (newarray.typeOf t) ≤ 8 := by cases t <;> decide
    calc n.toNat * componentBytes (newarray.typeOf t) ≤ 100000 * 8 := Nat.mul_le_mul (by omega) this
      _ ≤ 536870912 := by decide
  refine va_newaK (n := i32 n) (N := n.toNat) hx hb (hts _ (by rw [tyK_atk t ht]; exact ac_in _ ht) rfl) rfl hdg rfl (fun q => by have := (n_lt (in0 hv) (show InR 0 by unfold InR; omega)).mp q; omega) hcl hcb (by omega) (by omega) hsz fun H1 cA e1 z1 o1 hAr hfc => ?_
  rw [tyK_atk t ht] at hfc e1
  have hcA : cA = gTY g (atk t) := Option.some.inj (hfc.symm.trans (TY_find hKN ht))
  subst hcA
  have hRn : RSl g (alc h (atk t) n.toNat) H1 := by
    refine RS_alc g hR hN (Or.inl ⟨hk9, by show n.toNat ≤ 100000; omega⟩) (by rw [z1, hsz]) (fun q hq => o1 q (by rw [← hsz]; exact hq)) ?_
    rw [entA g hk9]
    show H1[_]? = some (vp_cell _ _)
    rw [vp_cellA g hk9, e1]
    congr 2
    funext j
    cases t <;> first | rfl | (exact absurd ht (by decide))
  have kk := kk lsR H1 locs hRn hl (vcs vok2 (vtl hv)) (S_push hS (by rw [z1, hsz]; omega) (fun q hq => o1 q (by rw [← hsz]; exact hq))) (by rw [cnt_alc]; omega) (by rw [ssum_alc]; omega)
  rw [cnt_alc, ssum_alc] at kk
  have kk : W p l e R s m args below meth c H1 locs (cnt h + 1 - c0) (ssum h + n.toNat - s0) Q (F0 m (pc + 2) lsR (va_rf (rfo g (nxt h)) :: r.map (cv g))) := kk
  rw [nxt_rfo] at kk
  rw [show cnt h - c0 + 1 = cnt h + 1 - c0 by omega, show ssum h - s0 + n.toNat = ssum h + n.toNat - s0 by omega]
  exact kk
theorem s_anewarray (C : Ctx p l s m args meth c g y) {i k : Nat} {n : Int} (hi : (yO y, i, k) ∈ AN) (hn : 0 ≤ n ∧ n ≤ 100000) (hN : okN h = true) (hRm : cnt h + 1 - c0 ≤ R.cells ∧ ssum h + n.toNat - s0 ≤ R.slots) (hdg : decode (yB y) pc = .ok (.anewarray i, 3)) (kk : G2 p l e R s m args below meth c Q g y c0 s0 (pc + 3) ls ((2, nxt h) :: r) (alc h k n.toNat)) : G2 p l e R s m args below meth c Q g y c0 s0 pc ls ((0, n) :: r) h := by
  intro lsR H locs hR hl hv hS hc hs
  obtain ⟨hx, hb, hml, hown, hts, hKN, -⟩ := C
  obtain ⟨w1, w2, w3⟩ := AN_ok _ hi
  have w1 : Cond.classLink (CN (yO y)) i (elc k) ∈ lw_tbl := w1
  have w2 : 5 ≤ k := w2
  have w3 : k < 8 := w3
  have hty : tyK k = .object (elc k) := by
    have : k = 5 ∨ k = 6 ∨ k = 7 := by omega
    rcases this with rfl | rfl | rfl <;> rfl
  have hx0 : h.2.2.2 = 0 := by unfold okN at hN; simpa using hN
  have hsz := hR.2.1 hx0
  have hnT : (i32 n).toInt = n := i32_T (in0 hv)
  have hk9 : k < 9 := by omega
  have hcl : (i32 n).toNatClampNeg = n.toNat := by show (i32 n).toInt.toNat = _; rw [hnT]
  have hov : (Cond.arrayOver (.object (elc k))).before args s = true := by
    have := hKN.2.2.2.2.2.2.2.1 k w2 hk9
    rw [hty] at this
    exact this
  refine W.anew (n := i32 n) hx hb hown (hts _ w1 rfl) hov rfl hdg rfl (fun q => by have := (n_lt (in0 hv) (show InR 0 by unfold InR; omega)).mp q; omega) (by rw [hcl]; omega) (by omega) (by rw [hcl]; omega) fun cA kA comp f1 f2 f3 f4 => ?_
  rw [hcl]
  generalize hH1 : H.push ({ cls := cA, slots := Array.replicate n.toNat .null, vm := .none } : Cell) = H1
  have z1 : H1.size = H.size + 1 := by rw [← hH1, Array.size_push]
  have e1 : H1[H.size]? = some (arrV cA n.toNat (fun _ => .null)) := by rw [← hH1, Array.getElem?_push_size, ← arrV_new]
  have o1 : ∀ q : Nat, q < H.size → H1[q]? = H[q]? := fun q hq => by rw [← hH1, Array.getElem?_push, if_neg (Nat.ne_of_lt hq)]
  have hRA := (hKN.1.2 k _ (TYS_at g hk9)).2
  rw [hty] at hRA
  obtain ⟨kA', comp', -, -, -, q4⟩ := hRA
  have hcA : cA = gTY g k := Option.some.inj (f1.symm.trans q4)
  subst hcA
  have hRn : RSl g (alc h k n.toNat) H1 := by
    refine RS_alc g hR hN (Or.inl ⟨hk9, by show n.toNat ≤ 100000; omega⟩) z1 o1 ?_
    rw [entA g hk9]
    show H1[_]? = some (vp_cell _ _)
    rw [vp_cellA g hk9, ← hsz, e1]
    congr 2
    funext j
    rw [show atg k = 2 by unfold atg; rw [if_neg (by omega), if_pos (by omega)]]
    rfl
  have kk := kk lsR H1 locs hRn hl (vcs vok2 (vtl hv)) (S_push hS (by rw [z1]; omega) o1) (by rw [cnt_alc]; omega) (by rw [ssum_alc]; omega)
  rw [cnt_alc, ssum_alc] at kk
  have kk : W p l e R s m args below meth c H1 locs (cnt h + 1 - c0) (ssum h + n.toNat - s0) Q (F0 m (pc + 3) lsR (va_rf (rfo g (nxt h)) :: r.map (cv g))) := kk
  rw [nxt_rfo, ← hsz] at kk
  rw [show cnt h - c0 + 1 = cnt h + 1 - c0 by omega, show ssum h - s0 + n.toNat = ssum h + n.toNat - s0 by omega]
  exact kk
end ST6
