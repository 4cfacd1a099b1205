section ST5
variable {p : Program} {l : Launch} {e : Env} {R : Room} {s : State} {m : MethodId} {args : Array Value} {below : List Frame} {meth : Method} {c : Code} {Q : State → Prop} {g : GG} {y c0 s0 pc : Nat} {ls r : List MV} {h : Hp}
theorem s_ldcI (C : Ctx p l s m args meth c g y) {i : Nat} {v : Int} (hi : (yO y, i, v) ∈ KI) (hdg : decode (yB y) pc = .ok (.ldc i, 2)) (kk : G2 p l e R s m args below meth c Q g y c0 s0 (pc + 2) ls ((0, v) :: r) h) : G2 p l e R s m args below meth c Q g y c0 s0 pc ls r h := by
  intro lsR H locs hR hl hv hS hc hs
  obtain ⟨hx, hb, hml, hown, hts, hKN, -⟩ := C
  obtain ⟨w1, w2⟩ := KI_ok _ hi
  exact lv_ldc (v := i32 v) hx hb hown (hts _ w1 rfl) hdg (kk lsR H locs hR hl (vcs (vok0 w2) hv) hS hc hs)
theorem s_ldcS (C : Ctx p l s m args meth c g y) {i : Nat} {v : Int} (hi : (yO y, i, v) ∈ SG) (hdg : decode (yB y) pc = .ok (.ldc i, 2)) (kk : G2 p l e R s m args below meth c Q g y c0 s0 (pc + 2) ls ((2, v) :: r) h) : G2 p l e R s m args below meth c Q g y c0 s0 pc ls r h := by
  intro lsR H locs hR hl hv hS hc hs
  obtain ⟨hx, hb, hml, hown, hts, hKN, -⟩ := C
  obtain ⟨q, w1, w2, w3, w4⟩ := SG_ok _ hi
  have w2 : CN (yO y) = q.1 := w2
  have w3 : i = q.2.1 := w3
  have hZ := hKN.2.2.2.2.2.1 _ q w1
  rw [w2] at hown
  have hv0 : v < 0 ∧ (-100 - (((-100 - v).toNat : Nat) : Int)) = v := by
    have hlt := (List.getElem?_eq_some_iff.mp w1).1
    have : SG.all (fun r => decide (r.2.2 ≤ -100)) = true := by decide
    have := List.all_eq_true.mp this _ hi
    have h3 : v ≤ -100 := by simpa using this
    exact ⟨by omega, by omega⟩
  have w1' : STRs[(-100 - v).toNat]? = some q := w1
  have hZ := hKN.2.2.2.2.2.1 _ q w1'
  rw [hv0.2] at hZ
  rw [← w3] at hZ
  have kk := kk lsR H locs hR hl (vcs vok2 hv) hS hc hs
  have kk : W p l e R s m args below meth c H locs (cnt h - c0) (ssum h - s0) Q (F0 m (pc + 2) lsR (va_rf (rfo g v) :: r.map (cv g))) := kk
  rw [rfo_neg g hv0.1] at kk
  exact va_ldcS hx hb hown hZ hdg kk
theorem s_ldc2 (C : Ctx p l s m args meth c g y) {i : Nat} {v : Int} (hi : (yO y, i, v) ∈ KL) (hdg : decode (yB y) pc = .ok (.ldc2_w i, 3)) (kk : G2 p l e R s m args below meth c Q g y c0 s0 (pc + 3) ls ((1, v) :: r) h) : G2 p l e R s m args below meth c Q g y c0 s0 pc ls r h := by
  intro lsR H locs hR hl hv hS hc hs
  obtain ⟨hx, hb, hml, hown, hts, hKN, -⟩ := C
  obtain ⟨w1, w2⟩ := KL_ok _ hi
  exact lv_ldc2 (v := i64 v) hx hb hown (hts _ w1 rfl) hdg (kk lsR H locs hR hl (vcs (vok1 w2) hv) hS hc hs)
theorem s_getstatic (C : Ctx p l s m args meth c g y) {i : Nat} {t v : Int} (hi : ST.any (fun r => r.1 == yO y && r.2.1 == i && r.2.2.1 == t.toNat && decide (r.2.2.2.1 = v) && decide (0 ≤ t) && decide (t ≤ 8) && (decide (t = 0 ∧ -2147483648 ≤ v ∧ v < 2147483648) || decide (t = 2 ∨ t = 8))) = true) (hdg : decode (yB y) pc = .ok (.getstatic i, 3)) (kk : G2 p l e R s m args below meth c Q g y c0 s0 (pc + 3) ls ((t.toNat, v) :: r) h) : G2 p l e R s m args below meth c Q g y c0 s0 pc ls r h := by
  intro lsR H locs hR hl hv hS hc hs
  obtain ⟨hx, hb, hml, hown, hts, hKN, -⟩ := C
  obtain ⟨q, hq, h1⟩ := List.any_eq_true.mp hi
  simp only [Bool.and_eq_true, Bool.or_eq_true, beq_iff_eq, decide_eq_true_eq] at h1
  obtain ⟨⟨⟨⟨⟨⟨h1, h2⟩, h3⟩, h4⟩, h5⟩, h6⟩, h7⟩ := h1
  obtain ⟨f1, f2, f3, f4, f5⟩ := ST_ok q hq
  have hZ := hKN.2.2.2.2.1 _ (List.mem_of_getElem? f5)
  rw [f4] at hZ
  dsimp only at hZ
  rw [h3, h4] at hZ
  have hvv : vok (t.toNat, v) := by
    rcases h7 with ⟨rfl, w⟩ | rfl | rfl
    · exact vok0 w
    · exact vok2
    · exact ⟨fun z => absurd (show (8 : Nat) = 0 from z) (by decide), fun z => absurd (show (8 : Nat) = 1 from z) (by decide), Or.inr (Or.inr (Or.inr rfl))⟩
  have kk := kk lsR H locs hR hl (vcs hvv hv) hS hc hs
  rw [h1, h2] at f1 f2
  have : q.2.2.2.2.2 = 0 ∨ q.2.2.2.2.2 = 1 := by omega
  rcases this with hn | hn
  · exact va_gets hx hb hZ hS hown (hts _ (f1 hn) rfl) (fun _ z => z) hdg kk
  · exact va_getsN hx hb hZ hS hown (va_Nw.use rfl (hKN.2.1 _ (f2 hn) rfl)) (fun _ z => z) hdg kk
theorem tok_neg {a : Int} (h : isTok a = true) : a < 0 := by unfold isTok at h; have := of_decide_eq_true h; omega
theorem tok_rf (hKN : KN g s s.heap) {a b : Int} (ha : isTok a = true) (hb : isTok b = true) : rfo g a = rfo g b ↔ a = b := by
  rw [rfo_neg g (tok_neg ha), rfo_neg g (tok_neg hb)]
  exact ⟨fun z => hKN.2.2.2.2.2.2.1 a b ha hb (Option.some.inj z), fun z => by rw [z]⟩
theorem s_acmp (C : Ctx p l s m args meth c g y) {cd0 : ClassFile.ACond} {f t x z : Int} (hxz : isTok x = true ∧ isTok z = true) (ht : (pc : Int) + f = t ∧ 0 ≤ t) (hdg : decode (yB y) pc = .ok (.if_acmp cd0 f, 3)) (kt : (cd0 = .eq ∧ x = z) ∨ (cd0 = .ne ∧ ¬ x = z) → G2 p l e R s m args below meth c Q g y c0 s0 t.toNat ls r h) (kf : (cd0 = .eq ∧ ¬ x = z) ∨ (cd0 = .ne ∧ x = z) → G2 p l e R s m args below meth c Q g y c0 s0 (pc + 3) ls r h) : G2 p l e R s m args below meth c Q g y c0 s0 pc ls ((2, z) :: (2, x) :: r) h := by
  intro lsR H locs hR hl hv hS hc hs
  have ee := tok_rf C.2.2.2.2.2.1 hxz.1 hxz.2
  cases cd0 with
  | eq => exact lv_acmp_eq (rx := rfo g x) (ry := rfo g z) (tgt := t.toNat) (rest := r.map (cv g)) C.1 C.2.1 hdg (tnn ht) (fun q => kt (Or.inl ⟨rfl, ee.mp q⟩) lsR H locs hR hl (vtl (vtl hv)) hS hc hs) (fun q => kf (Or.inl ⟨rfl, fun w => q (ee.mpr w)⟩) lsR H locs hR hl (vtl (vtl hv)) hS hc hs)
  | ne => exact lv_acmp_ne (rx := rfo g x) (ry := rfo g z) (tgt := t.toNat) (rest := r.map (cv g)) C.1 C.2.1 hdg (tnn ht) (fun q => kt (Or.inr ⟨rfl, fun w => q (ee.mpr w)⟩) lsR H locs hR hl (vtl (vtl hv)) hS hc hs) (fun q => kf (Or.inr ⟨rfl, ee.mp q⟩) lsR H locs hR hl (vtl (vtl hv)) hS hc hs)
theorem rfo_none {x : Int} : rfo g x = none ↔ x = 0 := by
  unfold rfo
  constructor
  · intro z
    split at z
    · assumption
    · split at z <;> cases z
  · intro z; rw [if_pos z]
theorem s_ifnull (C : Ctx p l s m args meth c g y) {f t x : Int} (ht : (pc : Int) + f = t ∧ 0 ≤ t) (hdg : decode (yB y) pc = .ok (.ifnull f, 3)) (kt : x = 0 → G2 p l e R s m args below meth c Q g y c0 s0 t.toNat ls r h) (kf : ¬ x = 0 → G2 p l e R s m args below meth c Q g y c0 s0 (pc + 3) ls r h) : G2 p l e R s m args below meth c Q g y c0 s0 pc ls ((2, x) :: r) h := by
  intro lsR H locs hR hl hv hS hc hs
  show W p l e R s m args below meth c H locs (cnt h - c0) (ssum h - s0) Q (F0 m pc lsR (va_rf (rfo g x) :: r.map (cv g)))
  cases hq : rfo g x with
  | none => exact lv_ifnullN C.1 C.2.1 hdg (tnn ht) (kt (rfo_none.mp hq) lsR H locs hR hl (vtl hv) hS hc hs)
  | some q => exact lv_ifnull C.1 C.2.1 hdg (kf (fun z => by rw [rfo_none.mpr z] at hq; cases hq) lsR H locs hR hl (vtl hv) hS hc hs)
theorem s_ifnonnull (C : Ctx p l s m args meth c g y) {f t x : Int} (ht : (pc : Int) + f = t ∧ 0 ≤ t) (hdg : decode (yB y) pc = .ok (.ifnonnull f, 3)) (kt : ¬ x = 0 → G2 p l e R s m args below meth c Q g y c0 s0 t.toNat ls r h) (kf : x = 0 → G2 p l e R s m args below meth c Q g y c0 s0 (pc + 3) ls r h) : G2 p l e R s m args below meth c Q g y c0 s0 pc ls ((2, x) :: r) h := by
  intro lsR H locs hR hl hv hS hc hs
  show W p l e R s m args below meth c H locs (cnt h - c0) (ssum h - s0) Q (F0 m pc lsR (va_rf (rfo g x) :: r.map (cv g)))
  cases hq : rfo g x with
  | none => exact lv_ifnonnullN C.1 C.2.1 hdg (kf (rfo_none.mp hq) lsR H locs hR hl (vtl hv) hS hc hs)
  | some q => exact lv_ifnonnull C.1 C.2.1 hdg (tnn ht) (kt (fun z => by rw [rfo_none.mpr z] at hq; cases hq) lsR H locs hR hl (vtl hv) hS hc hs)
theorem swk_tsk {R' : Type} (K : Int → Option R') (d x : Int) (pc : Nat) (lo : Int) : ∀ (fs : List Int) (i : Nat), (∀ j : Nat, j < i → x ≠ lo + j) → (∃ (j : Nat) (f : Int), fs[j]? = some f ∧ x = lo + i + j ∧ swk K d x (tsk pc lo i fs) = K ((pc : Int) + f)) ∨ ((x < lo + i ∨ lo + i + fs.length ≤ x) ∧ swk K d x (tsk pc lo i fs) = K d)
  | [], i, _ => by
    right
    refine ⟨?_, rfl⟩
    simp only [List.length_nil]; omega
  | f :: fs, i, hi => by
    by_cases hx : x = lo + i
    · left
      refine ⟨0, f, rfl, by omega, ?_⟩
      show (if x = lo + i then _ else _) = _
      rw [if_pos hx]
    · have e : swk K d x (tsk pc lo i (f :: fs)) = swk K d x (tsk pc lo (i + 1) fs) := by
        show (if x = lo + i then _ else _) = _
        rw [if_neg hx]
      rw [e]
      rcases swk_tsk K d x pc lo fs (i + 1) (fun j hj => by
        by_cases q : j = i
        · subst q; exact hx
        · exact hi j (by omega)) with ⟨j, f', h1, h2, h3⟩ | ⟨h1, h2⟩
      · exact Or.inl ⟨j + 1, f', h1, by omega, h3⟩
      · refine Or.inr ⟨?_, h2⟩
        rw [List.length_cons]
        rcases h1 with h1 | h1
        · left; omega
        · right; omega
theorem s_tableswitch (C : Ctx p l s m args meth c g y) {R' : Type} {K : Int → Option R'} {res : R'} {dflt lo hi d x : Int} {fs : Array Int} {ln : Nat} (hd : (pc : Int) + dflt = d ∧ 0 ≤ d) (hhi : hi = lo + fs.size - 1) (hlo : lo ≤ hi) (hn : ∀ f ∈ fs.toList, 0 ≤ (pc : Int) + f) (hdg : decode (yB y) pc = .ok (.tableswitch dflt lo hi fs, ln))
    (he : swk K d x (tsk pc lo 0 fs.toList) = some res) (kk : ∀ t : Int, K t = some res → G2 p l e R s m args below meth c Q g y c0 s0 t.toNat ls r h) : G2 p l e R s m args below meth c Q g y c0 s0 pc ls ((0, x) :: r) h := by
  intro lsR H locs hR hl hv hS hc hs
  have hxT : (i32 x).toInt = x := i32_T (in0 hv)
  rcases swk_tsk K d x pc lo fs.toList 0 (fun j hj => by omega) with ⟨j, f, h1, h2, h3⟩ | ⟨h1, h2⟩
  · rw [h3] at he
    have hj : j < fs.size := by
      have := (List.getElem?_eq_some_iff.mp h1).1
      simpa using this
    refine lv_tableIn (x := i32 x) (off := f) (tgt := ((pc : Int) + f).toNat) (rest := r.map (cv g)) C.1 C.2.1 hdg (by rw [hxT]; omega) (by rw [hxT]; omega) ?_ (by have := hn f (List.mem_of_getElem? h1); omega) (kk _ he lsR H locs hR hl (vtl hv) hS hc hs)
    rw [hxT, show (x - lo).toNat = j by omega]
    simpa using h1
  · rw [h2] at he
    refine lv_tableOut (x := i32 x) (tgt := d.toNat) (rest := r.map (cv g)) C.1 C.2.1 hdg ?_ (by omega) (kk _ he lsR H locs hR hl (vtl hv) hS hc hs)
    rw [hxT]
    have : fs.toList.length = fs.size := Array.length_toList
    omega
theorem swk_lsk {R' : Type} (K : Int → Option R') (d x : Int) (pc : Nat) : ∀ ps : List (Int × Int), swk K ((pc : Int) + d) x (lsk pc ps) = K ((pc : Int) + Op.lookupswitch.offset ps d x)
  | [] => rfl
  | (k, f) :: ps => by
    show (if x = k then K ((pc : Int) + f) else swk K ((pc : Int) + d) x (lsk pc ps)) = _
    rw [swk_lsk K d x pc ps]
    show _ = K ((pc : Int) + (if k = x then f else Op.lookupswitch.offset ps d x))
    by_cases hx : x = k
    · rw [if_pos hx, if_pos hx.symm]
    · rw [if_neg hx, if_neg (Ne.symm hx)]
theorem lsk_nn {d x : Int} {pc : Nat} (hd : 0 ≤ (pc : Int) + d) : ∀ ps : List (Int × Int), (∀ f ∈ ps, 0 ≤ (pc : Int) + f.2) → 0 ≤ (pc : Int) + Op.lookupswitch.offset ps d x
  | [], _ => hd
  | (k, f) :: ps, h => by
    unfold Op.lookupswitch.offset
    have h2 := lsk_nn (x := x) hd ps (fun f hf => h f (List.mem_cons_of_mem _ hf))
    have h3 : 0 ≤ (pc : Int) + f := h (k, f) List.mem_cons_self
    split <;> assumption
theorem s_lookupswitch (C : Ctx p l s m args meth c g y) {R' : Type} {K : Int → Option R'} {res : R'} {dflt d x : Int} {ps : Array (Int × Int)} {ln : Nat} (hd : (pc : Int) + dflt = d ∧ 0 ≤ d) (hs0 : (ps.toList.zip (ps.toList.drop 1)).all (fun (a, next) => a.1 < next.1) = true) (hn : ∀ f ∈ ps.toList, 0 ≤ (pc : Int) + f.2) (hdg : decode (yB y) pc = .ok (.lookupswitch dflt ps, ln))
    (he : swk K d x (lsk pc ps.toList) = some res) (kk : ∀ t : Int, K t = some res → G2 p l e R s m args below meth c Q g y c0 s0 t.toNat ls r h) : G2 p l e R s m args below meth c Q g y c0 s0 pc ls ((0, x) :: r) h := by
  intro lsR H locs hR hl hv hS hc hs
  have hxT : (i32 x).toInt = x := i32_T (in0 hv)
  rw [← hd.1, swk_lsk] at he
  exact lv_lookup (x := i32 x) (tgt := ((pc : Int) + Op.lookupswitch.offset ps.toList dflt x).toNat) (rest := r.map (cv g)) C.1 C.2.1 hdg hs0 (by rw [hxT]) (by have := lsk_nn (x := x) (show 0 ≤ (pc : Int) + dflt by omega) ps.toList hn; omega) (kk _ he lsR H locs hR hl (vtl hv) hS hc hs)
end ST5
