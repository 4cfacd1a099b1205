/-! Math's methods, and an enum's ordinal -/
theorem cm_242 (d : Nat) (x : Int) (h : Hp) : C d 242 [(1, x)] h = some ((1, if x < 0 then w64 (-x) else x), h) := by
  refine (C_of (y := 242) (as := [(1, x)]) (Nat.le_refl _)).trans ?_
  rw [show loc0 242 [(1, x)] = [(1, x), (9, 0)] from rfl, e242_0]
  by_cases q : x < 0
  · rw [if_pos (by unfold lcm; rw [if_pos q]; decide), if_pos q, e242_12]
  · rw [if_neg (by unfold lcm; rw [if_neg q]; split <;> decide), if_neg q, e242_11, e242_12]
theorem cm_243 (d : Nat) (x y : Int) (h : Hp) : C d 243 [(0, x), (0, y)] h = some ((0, if x < y then y else x), h) := by
  refine (C_of (y := 243) (as := [(0, x), (0, y)]) (Nat.le_refl _)).trans ?_
  rw [show loc0 243 [(0, x), (0, y)] = [(0, x), (0, y)] from rfl, e243_0]
  by_cases q : x < y
  · rw [if_pos q, if_pos q, e243_9, e243_10]
  · rw [if_neg q, if_neg q, e243_10]
theorem cm_245 (d : Nat) (x y : Int) (h : Hp) : C d 245 [(0, x), (0, y)] h = some ((0, if y < x then y else x), h) := by
  refine (C_of (y := 245) (as := [(0, x), (0, y)]) (Nat.le_refl _)).trans ?_
  rw [show loc0 245 [(0, x), (0, y)] = [(0, x), (0, y)] from rfl, e245_0]
  by_cases q : y < x
  · rw [if_pos q, if_pos q, e245_9, e245_10]
  · rw [if_neg q, if_neg q, e245_10]
theorem lcm_lt (x y : Int) : lcm x y < 0 ↔ x < y := by unfold lcm; split <;> (try split) <;> simp_all
theorem lcm_gt (x y : Int) : 0 < lcm x y ↔ y < x := by
  unfold lcm
  split
  · constructor
    · intro q; omega
    · intro q; omega
  · split
    · constructor
      · intro q; omega
      · intro q; omega
    · constructor
      · intro q; omega
      · intro q; omega
theorem cm_244 (d : Nat) (x y : Int) (h : Hp) : C d 244 [(1, x), (1, y)] h = some ((1, if x < y then y else x), h) := by
  refine (C_of (y := 244) (as := [(1, x), (1, y)]) (Nat.le_refl _)).trans ?_
  rw [show loc0 244 [(1, x), (1, y)] = [(1, x), (9, 0), (1, y), (9, 0)] from rfl, e244_0]
  by_cases q : x < y
  · rw [if_pos ((lcm_lt x y).mpr q), if_pos q, e244_10, e244_11]
  · rw [if_neg (fun z => q ((lcm_lt x y).mp z)), if_neg q, e244_11]
theorem cm_246 (d : Nat) (x y : Int) (h : Hp) : C d 246 [(1, x), (1, y)] h = some ((1, if y < x then y else x), h) := by
  refine (C_of (y := 246) (as := [(1, x), (1, y)]) (Nat.le_refl _)).trans ?_
  rw [show loc0 246 [(1, x), (1, y)] = [(1, x), (9, 0), (1, y), (9, 0)] from rfl, e246_0]
  by_cases q : y < x
  · rw [if_pos ((lcm_gt x y).mpr q), if_pos q, e246_10, e246_11]
  · rw [if_neg (fun z => q ((lcm_gt x y).mp z)), if_neg q, e246_11]
section MA
variable {p : Program} {l : Launch} {e : Env} {R : Room} {s : State} {m : MethodId} {args : Array Value} {below : List Frame} {meth : Method} {c : Code} {Q : State → Prop} {g : GG} {y c0 s0 pc : Nat} {ls r : List MV} {h : Hp}
theorem s_mmax (C : Ctx p l s m args meth c g y) {i : Nat} {x z : Int} (hi : (yO y, i, 243) ∈ MA) (hr8 : rsum r ≤ 8) (hRf : 1 ≤ R.frames ∧ 40 ≤ R.locals) (hRc : cnt h - c0 ≤ R.cells ∧ ssum h - s0 ≤ R.slots) (hdg : decode (yB y) pc = .ok (.invokestatic i, 3))
    (kk : G2 p l e R s m args below meth c Q g y c0 s0 (pc + 3) ls ((0, if x < z then z else x) :: r) h) : G2 p l e R s m args below meth c Q g y c0 s0 pc ls ((0, z) :: (0, x) :: r) h := by
  intro lsR H locs hR hl hv hS hc hs
  obtain ⟨hx, hb, hml, hown, hts, hKN, -⟩ := C
  have hz := in0 hv
  have hxx := in0 (vtl hv)
  have hq : InR (if x < z then z else x) := by split <;> assumption
  have kk := kk lsR H locs hR hl (vcs (vok0 hq) (vtl (vtl hv))) hS hc hs
  refine va_mmax hx hb (hml.trans hl.1.1.symm) hown (hts _ (MA_ok _ hi) rfl) (hts _ ms_243.1 rfl) (hts _ ms_243.2.2 rfl) (hts _ ms_243.2.1 rfl) hRf.1 (by rw [cat_sum]; omega) hRc.1 hRc.2 (x := i32 x) (y := i32 z) hdg ?_
  have e1 : (if i32 x < i32 z then i32 z else i32 x) = i32 (if x < z then z else x) := by
    by_cases q : x < z
    · rw [if_pos q, if_pos ((n_lt hxx hz).mpr q)]
    · rw [if_neg q, if_neg (fun w => q ((n_lt hxx hz).mp w))]
  rw [e1]
  exact kk
theorem s_mmin (C : Ctx p l s m args meth c g y) {i : Nat} {x z : Int} (hi : (yO y, i, 245) ∈ MA) (hr8 : rsum r ≤ 8) (hRf : 1 ≤ R.frames ∧ 40 ≤ R.locals) (hRc : cnt h - c0 ≤ R.cells ∧ ssum h - s0 ≤ R.slots) (hdg : decode (yB y) pc = .ok (.invokestatic i, 3))
    (kk : G2 p l e R s m args below meth c Q g y c0 s0 (pc + 3) ls ((0, if z < x then z else x) :: r) h) : G2 p l e R s m args below meth c Q g y c0 s0 pc ls ((0, z) :: (0, x) :: r) h := by
  intro lsR H locs hR hl hv hS hc hs
  obtain ⟨hx, hb, hml, hown, hts, hKN, -⟩ := C
  have hz := in0 hv
  have hxx := in0 (vtl hv)
  have hq : InR (if z < x then z else x) := by split <;> assumption
  have kk := kk lsR H locs hR hl (vcs (vok0 hq) (vtl (vtl hv))) hS hc hs
  refine va_mmin hx hb (hml.trans hl.1.1.symm) hown (hts _ (MA_ok _ hi) rfl) (hts _ ms_245.1 rfl) (hts _ ms_245.2.2 rfl) (hts _ ms_245.2.1 rfl) hRf.1 (by rw [cat_sum]; omega) hRc.1 hRc.2 (x := i32 x) (y := i32 z) hdg ?_
  have e1 : (if i32 z < i32 x then i32 z else i32 x) = i32 (if z < x then z else x) := by
    by_cases q : z < x
    · rw [if_pos q, if_pos ((n_lt hz hxx).mpr q)]
    · rw [if_neg q, if_neg (fun w => q ((n_lt hz hxx).mp w))]
  rw [e1]
  exact kk
theorem s_mmaxl (C : Ctx p l s m args meth c g y) {i : Nat} {x z : Int} (hi : (yO y, i, 244) ∈ MA) (hr8 : rsum r ≤ 8) (hRf : 1 ≤ R.frames ∧ 40 ≤ R.locals) (hRc : cnt h - c0 ≤ R.cells ∧ ssum h - s0 ≤ R.slots) (hdg : decode (yB y) pc = .ok (.invokestatic i, 3))
    (kk : G2 p l e R s m args below meth c Q g y c0 s0 (pc + 3) ls ((1, if x < z then z else x) :: r) h) : G2 p l e R s m args below meth c Q g y c0 s0 pc ls ((1, z) :: (1, x) :: r) h := by
  intro lsR H locs hR hl hv hS hc hs
  obtain ⟨hx, hb, hml, hown, hts, hKN, -⟩ := C
  have hz := in1 hv
  have hxx := in1 (vtl hv)
  have hq : InL (if x < z then z else x) := by split <;> assumption
  have kk := kk lsR H locs hR hl (vcs (vok1 hq) (vtl (vtl hv))) hS hc hs
  refine va_mmax_long hx hb (hml.trans hl.1.1.symm) hown (hts _ (MA_ok _ hi) rfl) (hts _ ms_244.1 rfl) (hts _ ms_244.2.2 rfl) (hts _ ms_244.2.1 rfl) hRf.1 (by rw [cat_sum]; omega) hRc.1 hRc.2 (x := i64 x) (y := i64 z) hdg ?_
  have e1 : (if i64 z < i64 x then i64 x else i64 z) = i64 (if x < z then z else x) := by
    by_cases q : x < z
    · rw [if_pos q, if_neg (fun w => by have := (l_lt hz hxx).mp w; omega)]
    · rw [if_neg q]
      by_cases q2 : z < x
      · rw [if_pos ((l_lt hz hxx).mpr q2)]
      · rw [if_neg (fun w => q2 ((l_lt hz hxx).mp w)), show z = x by omega]
  rw [e1]
  exact kk
theorem s_mminl (C : Ctx p l s m args meth c g y) {i : Nat} {x z : Int} (hi : (yO y, i, 246) ∈ MA) (hr8 : rsum r ≤ 8) (hRf : 1 ≤ R.frames ∧ 40 ≤ R.locals) (hRc : cnt h - c0 ≤ R.cells ∧ ssum h - s0 ≤ R.slots) (hdg : decode (yB y) pc = .ok (.invokestatic i, 3))
    (kk : G2 p l e R s m args below meth c Q g y c0 s0 (pc + 3) ls ((1, if z < x then z else x) :: r) h) : G2 p l e R s m args below meth c Q g y c0 s0 pc ls ((1, z) :: (1, x) :: r) h := by
  intro lsR H locs hR hl hv hS hc hs
  obtain ⟨hx, hb, hml, hown, hts, hKN, -⟩ := C
  have hz := in1 hv
  have hxx := in1 (vtl hv)
  have hq : InL (if z < x then z else x) := by split <;> assumption
  have kk := kk lsR H locs hR hl (vcs (vok1 hq) (vtl (vtl hv))) hS hc hs
  refine va_mmin_long hx hb (hml.trans hl.1.1.symm) hown (hts _ (MA_ok _ hi) rfl) (hts _ ms_246.1 rfl) (hts _ ms_246.2.2 rfl) (hts _ ms_246.2.1 rfl) hRf.1 (by rw [cat_sum]; omega) hRc.1 hRc.2 (x := i64 x) (y := i64 z) hdg ?_
  have e1 : (if i64 z < i64 x then i64 z else i64 x) = i64 (if z < x then z else x) := by
    by_cases q : z < x
    · rw [if_pos q, if_pos ((l_lt hz hxx).mpr q)]
    · rw [if_neg q, if_neg (fun w => q ((l_lt hz hxx).mp w))]
  rw [e1]
  exact kk
theorem s_mabsl (C : Ctx p l s m args meth c g y) {i : Nat} {x : Int} (hi : (yO y, i, 242) ∈ MA) (hr8 : rsum r ≤ 8) (hRf : 1 ≤ R.frames ∧ 40 ≤ R.locals) (hRc : cnt h - c0 ≤ R.cells ∧ ssum h - s0 ≤ R.slots) (hdg : decode (yB y) pc = .ok (.invokestatic i, 3))
    (kk : G2 p l e R s m args below meth c Q g y c0 s0 (pc + 3) ls ((1, if x < 0 then w64 (-x) else x) :: r) h) : G2 p l e R s m args below meth c Q g y c0 s0 pc ls ((1, x) :: r) h := by
  intro lsR H locs hR hl hv hS hc hs
  obtain ⟨hx, hb, hml, hown, hts, hKN, -⟩ := C
  have hxx := in1 hv
  have h0 : InL 0 := by unfold InL; omega
  have hq : InL (if x < 0 then w64 (-x) else x) := by
    split
    · exact w64_in _
    · exact hxx
  have kk := kk lsR H locs hR hl (vcs (vok1 hq) (vtl hv)) hS hc hs
  refine va_mabs_long hx hb (hml.trans hl.1.1.symm) hown (hts _ (MA_ok _ hi) rfl) (hts _ ms_242.1 rfl) (hts _ ms_242.2.2 rfl) (hts _ ms_242.2.1 rfl) hRf.1 (by rw [cat_sum]; omega) hRc.1 hRc.2 (x := i64 x) hdg ?_
  have e1 : (if (0 : Int64) < i64 x then i64 x else - i64 x) = i64 (if x < 0 then w64 (-x) else x) := by
    rw [l_neg, show (0 : Int64) = i64 0 from rfl]
    by_cases q : x < 0
    · rw [if_pos q, if_neg (fun w => by have := (l_lt h0 hxx).mp w; omega)]
    · rw [if_neg q]
      by_cases q2 : 0 < x
      · rw [if_pos ((l_lt h0 hxx).mpr q2)]
      · rw [if_neg (fun w => q2 ((l_lt h0 hxx).mp w)), show x = 0 by omega]; rfl
  rw [e1]
  exact kk
/-- an enum's ordinal -/
theorem s_ord (C : Ctx p l s m args meth c g y) {i d q : Nat} {a : Int} {v : MV} {h' : Hp} (hi : (yO y, i, 0) ∈ OR) (ho : okF h a 32 = true) (hM : MetC l g d 241 [(2, a)] h v h') (hq : v.1 = q) (hr8 : rsum r ≤ 8) (hRm : d + 3 ≤ R.frames ∧ 44 * (d + 1) + 80 ≤ R.locals) (hRc : cnt h' - c0 ≤ R.cells ∧ ssum h' - s0 ≤ R.slots ∧ cnt h ≤ cnt h' ∧ ssum h ≤ ssum h')
    (hdg : decode (yB y) pc = .ok (.invokevirtual i, 3)) (kk : G2 p l e R s m args below meth c Q g y c0 s0 (pc + 3) ls (if q = 9 then r else (q, v.2) :: r) h') : G2 p l e R s m args below meth c Q g y c0 s0 pc ls ((2, a) :: r) h := by
  intro lsR H locs hR hl hv hS hc hs
  have hT : ∀ w ∈ TW, w.before args s = true := fun w hw => by
    obtain ⟨h1, h2⟩ := List.mem_filter.mp hw
    exact C.2.2.2.2.1 w h1 h2
  obtain ⟨ra, cell, r1, r2, r3, r4⟩ := rd_recv C.2.2.2.2.2.1 hS hR (show 20 ≤ 32 by decide) ho
  have r4 : s.vm.findClass "PaidFaces$Token" = some cell.cls := r4
  have ha : cv g (2, a) = .ref ra := r1
  show W p l e R s m args below meth c H locs (cnt h - c0) (ssum h - s0) Q (F0 m pc lsR (cv g (2, a) :: r.map (cv g)))
  rw [ha]
  have hPc := pc_of C.2.2.2.2.2.1 hS hR [(2, a)]
  rw [List.map_cons, ha] at hPc
  have hgo : va_Run p l e R s m args below meth c H locs (cnt h - c0) (ssum h - s0) (cnt h' - cnt h) (ssum h' - ssum h) (F0 m pc lsR (.ref ra :: r.map (cv g))) (r.map (cv g)) (Qcall g v h' (Value.ref ra :: []).toArray) (gA g) := by
    have hrm := lv_room (m := m) (pc := pc) (ls := lsR) (rest := .ref ra :: r.map (cv g)) (st := r.map (cv g)) (by rw [cat_sum]; exact hr8)
    have hG : GoodIn TW (va_wsU (CN (yO y)) i "PaidFaces$Token" "java/lang/Enum" ⟨"PaidFaces$Token", "ordinal", "()I"⟩ (yN 241) (yWs 241)) := by
      have hg : ∀ w ∈ va_wsU (CN (yO y)) i "PaidFaces$Token" "java/lang/Enum" ⟨"PaidFaces$Token", "ordinal", "()I"⟩ (yN 241) (yWs 241), w ∈ TW := by
        intro w hw
        unfold va_wsU at hw
        rcases List.mem_append.mp hw with q | q
        · simp only [List.mem_cons, List.not_mem_nil, or_false] at q
          rcases q with rfl | rfl | rfl | rfl | rfl
          · exact tw_in (OR_ok _ hi) rfl
          · exact tw_in w_os rfl
          · exact tw_in w_ol rfl
          · exact tw_in w_oe rfl
          · exact tw_in mp_241.2.1 rfl
        · exact yWs_good mp_241 w q
      exact fun w hw => ⟨hg w hw, good_of_word (by obtain ⟨-, h2⟩ := List.mem_filter.mp (hg w hw); exact h2)⟩
    have hcw := va_cwU (R := R) (s := s) (args := args) (own := CN (yO y)) (C := "PaidFaces$Token") (owner := "java/lang/Enum") (index := i) (maxL := nlo 241) (mc := cnt h' - cnt h) (ms := ssum h' - ssum h) (x := ⟨"PaidFaces$Token", "ordinal", "()I"⟩) (y := yN 241) (bytes := yB 241) (ret := yR 241) (Ts := TW) (ws := yWs 241) (ws' := TW) (rm := { frames := d + 2, cells := cnt h' - cnt h, slots := ssum h' - ssum h, locals := 44 * d + 80 }) 0 hT hG rfl rfl rfl (by decide +kernel) (by decide +kernel) ⟨hRm.1, (by
      have : nlo 241 ≤ 24 := mp_241.2.2.2.2.2
      show 8 + (nlo 241 + 11) + (44 * d + 80) ≤ _; omega)⟩
    exact va_runU (callFix C) hM hcw ⟨Pcall_blind g _ h, ⟨cell, r2, r3, r4⟩, hPc⟩ rfl rfl hl.1.1 rfl hrm hdg ⟨by omega, by omega⟩
  refine go_call hgo hS fun H1 locs1 hR1 hv1 hS1 => ?_
  rw [show cnt h - c0 + (cnt h' - cnt h) = cnt h' - c0 by omega, show ssum h - s0 + (ssum h' - ssum h) = ssum h' - s0 by omega]
  have hvr : ∀ w ∈ r, vok w := vtl hv
  subst hq
  by_cases h9 : v.1 = 9
  · rw [if_pos h9] at kk
    have := kk lsR H1 locs1 hR1 hl hvr hS1 (by omega) (by omega)
    unfold rvO
    rw [if_pos h9]
    exact this
  · rw [if_neg h9] at kk
    have := kk lsR H1 locs1 hR1 hl (vcs (hv1 h9) hvr) hS1 (by omega) (by omega)
    unfold rvO
    rw [if_neg h9]
    exact this
end MA
section MB
variable {p : Program} {l : Launch} {e : Env} {R : Room} {s : State} {m : MethodId} {args : Array Value} {below : List Frame} {meth : Method} {c : Code} {Q : State → Prop} {g : GG} {y c0 s0 pc : Nat} {ls r : List MV} {h : Hp}
/-- a first load tells the tag -/
theorem ml_i {d z pc : Nat} {k : Fin 4} {ls st : List MV} {h : Hp} {r : MR} (hc : cd z pc = some (.iload_n k, 1, [], [])) (e : V d z pc ls st h = some r) : ∃ x, ls[k.val]? = some (0, x) ∧ V d z (pc + 1) ls ((0, x) :: st) h = some r := by
  rw [V_step hc] at e
  dsimp only [exK, kil, List.foldl_nil] at e
  split at e
  · exact ⟨_, by assumption, e⟩
  · cases e
theorem ml_l {d z pc : Nat} {k : Fin 4} {ls st : List MV} {h : Hp} {r : MR} (hc : cd z pc = some (.lload_n k, 1, [], [])) (e : V d z pc ls st h = some r) : ∃ x, ls[k.val]? = some (1, x) ∧ V d z (pc + 1) ls ((1, x) :: st) h = some r := by
  rw [V_step hc] at e
  dsimp only [exK, kil, List.foldl_nil] at e
  split at e
  · exact ⟨_, by assumption, e⟩
  · cases e
theorem mt_ii {d z : Nat} (hz : z = 243 ∨ z = 245) {v w : MV} {h : Hp} {r : MR} (e : C d z [v, w] h = some r) : ∃ a b, v = (0, a) ∧ w = (0, b) := by
  have e : V d z 0 (loc0 z [v, w]) [] h = some r := (C_fit e).2
  have h0 : cd z 0 = some (.iload_n 0, 1, [], []) := by rcases hz with rfl | rfl <;> decide +kernel
  have h1 : cd z 1 = some (.iload_n 1, 1, [], []) := by rcases hz with rfl | rfl <;> decide +kernel
  obtain ⟨a, ha, e⟩ := ml_i h0 e
  obtain ⟨b, hb, -⟩ := ml_i h1 e
  obtain ⟨t, x⟩ := v
  obtain ⟨u, x'⟩ := w
  have q0 : (loc0 z [(t, x), (u, x')])[0]? = some (t, x) := by rcases t with _ | _ | t <;> rfl
  have q0 := q0.symm.trans ha
  cases q0
  have q1 : (loc0 z [(0, a), (u, x')])[1]? = some (u, x') := by rcases u with _ | _ | u <;> rfl
  have q1 := q1.symm.trans hb
  cases q1
  exact ⟨_, _, rfl, rfl⟩
theorem mt_ll {d z : Nat} (hz : z = 244 ∨ z = 246) {v w : MV} {h : Hp} {r : MR} (e : C d z [v, w] h = some r) : ∃ a b, v = (1, a) ∧ w = (1, b) := by
  have e : V d z 0 (loc0 z [v, w]) [] h = some r := (C_fit e).2
  have h0 : cd z 0 = some (.lload_n 0, 1, [], []) := by rcases hz with rfl | rfl <;> decide +kernel
  have h1 : cd z 1 = some (.lload_n 2, 1, [], []) := by rcases hz with rfl | rfl <;> decide +kernel
  obtain ⟨a, ha, e⟩ := ml_l h0 e
  obtain ⟨b, hb, -⟩ := ml_l h1 e
  obtain ⟨t, x⟩ := v
  obtain ⟨u, x'⟩ := w
  have q0 : (loc0 z [(t, x), (u, x')])[0]? = some (t, x) := by rcases t with _ | _ | t <;> rfl
  have q0 := q0.symm.trans ha
  cases q0
  have q1 : (loc0 z [(1, a), (u, x')])[2]? = some (u, x') := by rcases u with _ | _ | u <;> rfl
  have q1 := q1.symm.trans hb
  cases q1
  exact ⟨_, _, rfl, rfl⟩
theorem mt_l {d : Nat} {v : MV} {h : Hp} {r : MR} (e : C d 242 [v] h = some r) : ∃ a, v = (1, a) := by
  have e : V d 242 0 (loc0 242 [v]) [] h = some r := (C_fit e).2
  obtain ⟨a, ha, -⟩ := ml_l (k := 0) (by decide +kernel) e
  obtain ⟨t, x⟩ := v
  have q0 : (loc0 242 [(t, x)])[0]? = some (t, x) := by rcases t with _ | _ | t <;> rfl
  have q0 := q0.symm.trans ha
  cases q0
  exact ⟨_, rfl⟩
theorem len2 {as : List MV} (h : as.length = 2) : ∃ v w, as = [v, w] := by
  match as, h with
  | [v, w], _ => exact ⟨v, w, rfl⟩
theorem len1 {as : List MV} (h : as.length = 1) : ∃ v, as = [v] := by
  match as, h with
  | [v], _ => exact ⟨v, rfl⟩
theorem s_math (CX : Ctx p l s m args meth c g y) {i d q : Nat} {z n : Int} {as : List MV} {v : MV} {h' : Hp} (hi : (yO y, i, z.toNat) ∈ MA) (hzn : (z = 242 ∧ n = 1) ∨ ((z = 243 ∨ z = 244 ∨ z = 245 ∨ z = 246) ∧ n = 2)) (hlen : as.length = n.toNat) (hC : C d z.toNat as h = some (v, h')) (hq : v.1 = q) (hr8 : rsum r ≤ 8) (hRf : 1 ≤ R.frames ∧ 40 ≤ R.locals) (hRc : cnt h - c0 ≤ R.cells ∧ ssum h - s0 ≤ R.slots) (hdg : decode (yB y) pc = .ok (.invokestatic i, 3))
    (kk : G2 p l e R s m args below meth c Q g y c0 s0 (pc + 3) ls (if q = 9 then r else (q, v.2) :: r) h') : G2 p l e R s m args below meth c Q g y c0 s0 pc ls (as.reverse ++ r) h := by
  subst hq
  rcases hzn with ⟨rfl, rfl⟩ | ⟨rfl | rfl | rfl | rfl, rfl⟩
  · obtain ⟨w, rfl⟩ := len1 hlen
    obtain ⟨a, rfl⟩ := mt_l hC
    have := (cm_242 d a h).symm.trans hC
    cases this
    exact s_mabsl CX hi hr8 hRf hRc hdg kk
  · obtain ⟨w, w', rfl⟩ := len2 hlen
    obtain ⟨a, b, rfl, rfl⟩ := mt_ii (Or.inl rfl) hC
    have := (cm_243 d a b h).symm.trans hC
    cases this
    exact s_mmax CX hi hr8 hRf hRc hdg kk
  · obtain ⟨w, w', rfl⟩ := len2 hlen
    obtain ⟨a, b, rfl, rfl⟩ := mt_ll (Or.inl rfl) hC
    have := (cm_244 d a b h).symm.trans hC
    cases this
    exact s_mmaxl CX hi hr8 hRf hRc hdg kk
  · obtain ⟨w, w', rfl⟩ := len2 hlen
    obtain ⟨a, b, rfl, rfl⟩ := mt_ii (Or.inr rfl) hC
    have := (cm_245 d a b h).symm.trans hC
    cases this
    exact s_mmin CX hi hr8 hRf hRc hdg kk
  · obtain ⟨w, w', rfl⟩ := len2 hlen
    obtain ⟨a, b, rfl, rfl⟩ := mt_ll (Or.inr rfl) hC
    have := (cm_246 d a b h).symm.trans hC
    cases this
    exact s_mminl CX hi hr8 hRf hRc hdg kk
end MB
