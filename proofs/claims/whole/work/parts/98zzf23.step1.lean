section ST
variable {p : Program} {l : Launch} {e : Env} {R : Room} {s : State} {m : MethodId} {args : Array Value} {below : List Frame} {meth : Method} {c : Code} {Q : State → Prop} {g : GG} {y c0 s0 pc : Nat} {ls r : List MV} {h : Hp}
theorem s_iadd (C : Ctx p l s m args meth c g y) {x z : Int} (hdg : decode (yB y) pc = .ok (.iadd, 1)) (k : G2 p l e R s m args below meth c Q g y c0 s0 (pc + 1) ls ((0, w32 (x + z)) :: r) h) : G2 p l e R s m args below meth c Q g y c0 s0 pc ls ((0, z) :: (0, x) :: r) h := by
  intro lsR H locs hR hl hv hS hc hs
  refine lv_iadd (x := i32 x) (y := i32 z) (rest := r.map (cv g)) C.1 C.2.1 hdg ?_
  rw [n_add]
  exact k lsR H locs hR hl (vcs (vok0 (w32_in _)) (vtl (vtl hv))) hS hc hs
theorem s_isub (C : Ctx p l s m args meth c g y) {x z : Int} (hdg : decode (yB y) pc = .ok (.isub, 1)) (k : G2 p l e R s m args below meth c Q g y c0 s0 (pc + 1) ls ((0, w32 (x - z)) :: r) h) : G2 p l e R s m args below meth c Q g y c0 s0 pc ls ((0, z) :: (0, x) :: r) h := by
  intro lsR H locs hR hl hv hS hc hs
  refine lv_isub (x := i32 x) (y := i32 z) (rest := r.map (cv g)) C.1 C.2.1 hdg ?_
  rw [n_sub]
  exact k lsR H locs hR hl (vcs (vok0 (w32_in _)) (vtl (vtl hv))) hS hc hs
theorem s_imul (C : Ctx p l s m args meth c g y) {x z : Int} (hdg : decode (yB y) pc = .ok (.imul, 1)) (k : G2 p l e R s m args below meth c Q g y c0 s0 (pc + 1) ls ((0, w32 (x * z)) :: r) h) : G2 p l e R s m args below meth c Q g y c0 s0 pc ls ((0, z) :: (0, x) :: r) h := by
  intro lsR H locs hR hl hv hS hc hs
  refine lv_imul (x := i32 x) (y := i32 z) (rest := r.map (cv g)) C.1 C.2.1 hdg ?_
  rw [n_mul]
  exact k lsR H locs hR hl (vcs (vok0 (w32_in _)) (vtl (vtl hv))) hS hc hs
theorem s_iand (C : Ctx p l s m args meth c g y) {x z : Int} (hdg : decode (yB y) pc = .ok (.iand, 1)) (k : G2 p l e R s m args below meth c Q g y c0 s0 (pc + 1) ls ((0, and32 x z) :: r) h) : G2 p l e R s m args below meth c Q g y c0 s0 pc ls ((0, z) :: (0, x) :: r) h := by
  intro lsR H locs hR hl hv hS hc hs
  refine lv_iand (x := i32 x) (y := i32 z) (rest := r.map (cv g)) C.1 C.2.1 hdg ?_
  rw [n_and]
  exact k lsR H locs hR hl (vcs (vok0 (and32_in _ _)) (vtl (vtl hv))) hS hc hs
theorem s_ior (C : Ctx p l s m args meth c g y) {x z : Int} (hdg : decode (yB y) pc = .ok (.ior, 1)) (k : G2 p l e R s m args below meth c Q g y c0 s0 (pc + 1) ls ((0, or32 x z) :: r) h) : G2 p l e R s m args below meth c Q g y c0 s0 pc ls ((0, z) :: (0, x) :: r) h := by
  intro lsR H locs hR hl hv hS hc hs
  refine lv_ior (x := i32 x) (y := i32 z) (rest := r.map (cv g)) C.1 C.2.1 hdg ?_
  rw [n_or]
  exact k lsR H locs hR hl (vcs (vok0 (or32_in _ _)) (vtl (vtl hv))) hS hc hs
theorem s_ixor (C : Ctx p l s m args meth c g y) {x z : Int} (hdg : decode (yB y) pc = .ok (.ixor, 1)) (k : G2 p l e R s m args below meth c Q g y c0 s0 (pc + 1) ls ((0, xor32 x z) :: r) h) : G2 p l e R s m args below meth c Q g y c0 s0 pc ls ((0, z) :: (0, x) :: r) h := by
  intro lsR H locs hR hl hv hS hc hs
  refine lv_ixor (x := i32 x) (y := i32 z) (rest := r.map (cv g)) C.1 C.2.1 hdg ?_
  rw [n_xor]
  exact k lsR H locs hR hl (vcs (vok0 (xor32_in _ _)) (vtl (vtl hv))) hS hc hs
theorem s_ishl (C : Ctx p l s m args meth c g y) {x z : Int} (hdg : decode (yB y) pc = .ok (.ishl, 1)) (k : G2 p l e R s m args below meth c Q g y c0 s0 (pc + 1) ls ((0, shl32 x z) :: r) h) : G2 p l e R s m args below meth c Q g y c0 s0 pc ls ((0, z) :: (0, x) :: r) h := by
  intro lsR H locs hR hl hv hS hc hs
  refine lv_ishl (x := i32 x) (y := i32 z) (rest := r.map (cv g)) C.1 C.2.1 hdg ?_
  rw [n_shl]
  exact k lsR H locs hR hl (vcs (vok0 (w32_in _)) (vtl (vtl hv))) hS hc hs
theorem s_ishr (C : Ctx p l s m args meth c g y) {x z : Int} (hdg : decode (yB y) pc = .ok (.ishr, 1)) (k : G2 p l e R s m args below meth c Q g y c0 s0 (pc + 1) ls ((0, shr32 x z) :: r) h) : G2 p l e R s m args below meth c Q g y c0 s0 pc ls ((0, z) :: (0, x) :: r) h := by
  intro lsR H locs hR hl hv hS hc hs
  refine lv_ishr (x := i32 x) (y := i32 z) (rest := r.map (cv g)) C.1 C.2.1 hdg ?_
  rw [n_shr (in0 (vtl hv))]
  exact k lsR H locs hR hl (vcs (vok0 (shr32_in (in0 (vtl hv)) _)) (vtl (vtl hv))) hS hc hs
theorem s_iushr (C : Ctx p l s m args meth c g y) {x z : Int} (hdg : decode (yB y) pc = .ok (.iushr, 1)) (k : G2 p l e R s m args below meth c Q g y c0 s0 (pc + 1) ls ((0, ushr32 x z) :: r) h) : G2 p l e R s m args below meth c Q g y c0 s0 pc ls ((0, z) :: (0, x) :: r) h := by
  intro lsR H locs hR hl hv hS hc hs
  refine lv_iushr (x := i32 x) (y := i32 z) (v := i32 (ushr32 x z)) (rest := r.map (cv g)) C.1 C.2.1 hdg (n_ushr x z) ?_
  exact k lsR H locs hR hl (vcs (vok0 (w32_in _)) (vtl (vtl hv))) hS hc hs
theorem s_idiv (C : Ctx p l s m args meth c g y) {x z : Int} (hz : ¬ z = 0) (hdg : decode (yB y) pc = .ok (.idiv, 1)) (k : G2 p l e R s m args below meth c Q g y c0 s0 (pc + 1) ls ((0, w32 (x.tdiv z)) :: r) h) : G2 p l e R s m args below meth c Q g y c0 s0 pc ls ((0, z) :: (0, x) :: r) h := by
  intro lsR H locs hR hl hv hS hc hs
  refine lv_idiv (x := i32 x) (y := i32 z) (rest := r.map (cv g)) C.1 C.2.1 hdg (fun q => hz ((n_eq (in0 hv) (by unfold InR; omega)).mp (q.trans i32_0.symm))) ?_
  rw [n_div (in0 (vtl hv)) (in0 hv)]
  exact k lsR H locs hR hl (vcs (vok0 (w32_in _)) (vtl (vtl hv))) hS hc hs
theorem s_irem (C : Ctx p l s m args meth c g y) {x z : Int} (hz : ¬ z = 0) (hdg : decode (yB y) pc = .ok (.irem, 1)) (k : G2 p l e R s m args below meth c Q g y c0 s0 (pc + 1) ls ((0, x.tmod z) :: r) h) : G2 p l e R s m args below meth c Q g y c0 s0 pc ls ((0, z) :: (0, x) :: r) h := by
  intro lsR H locs hR hl hv hS hc hs
  refine lv_irem (x := i32 x) (y := i32 z) (rest := r.map (cv g)) C.1 C.2.1 hdg (fun q => hz ((n_eq (in0 hv) (by unfold InR; omega)).mp (q.trans i32_0.symm))) ?_
  rw [n_rem (in0 (vtl hv)) (in0 hv)]
  exact k lsR H locs hR hl (vcs (vok0 (n_tmodR (in0 (vtl hv)))) (vtl (vtl hv))) hS hc hs
theorem s_ladd (C : Ctx p l s m args meth c g y) {x z : Int} (hdg : decode (yB y) pc = .ok (.ladd, 1)) (k : G2 p l e R s m args below meth c Q g y c0 s0 (pc + 1) ls ((1, w64 (x + z)) :: r) h) : G2 p l e R s m args below meth c Q g y c0 s0 pc ls ((1, z) :: (1, x) :: r) h := by
  intro lsR H locs hR hl hv hS hc hs
  refine lv_ladd (x := i64 x) (y := i64 z) (rest := r.map (cv g)) C.1 C.2.1 hdg ?_
  rw [l_add]
  exact k lsR H locs hR hl (vcs (vok1 (w64_in _)) (vtl (vtl hv))) hS hc hs
theorem s_lsub (C : Ctx p l s m args meth c g y) {x z : Int} (hdg : decode (yB y) pc = .ok (.lsub, 1)) (k : G2 p l e R s m args below meth c Q g y c0 s0 (pc + 1) ls ((1, w64 (x - z)) :: r) h) : G2 p l e R s m args below meth c Q g y c0 s0 pc ls ((1, z) :: (1, x) :: r) h := by
  intro lsR H locs hR hl hv hS hc hs
  refine lv_lsub (x := i64 x) (y := i64 z) (rest := r.map (cv g)) C.1 C.2.1 hdg ?_
  rw [l_sub]
  exact k lsR H locs hR hl (vcs (vok1 (w64_in _)) (vtl (vtl hv))) hS hc hs
theorem s_lmul (C : Ctx p l s m args meth c g y) {x z : Int} (hdg : decode (yB y) pc = .ok (.lmul, 1)) (k : G2 p l e R s m args below meth c Q g y c0 s0 (pc + 1) ls ((1, w64 (x * z)) :: r) h) : G2 p l e R s m args below meth c Q g y c0 s0 pc ls ((1, z) :: (1, x) :: r) h := by
  intro lsR H locs hR hl hv hS hc hs
  refine lv_lmul (x := i64 x) (y := i64 z) (rest := r.map (cv g)) C.1 C.2.1 hdg ?_
  rw [l_mul]
  exact k lsR H locs hR hl (vcs (vok1 (w64_in _)) (vtl (vtl hv))) hS hc hs
theorem s_ldiv (C : Ctx p l s m args meth c g y) {x z : Int} (hz : ¬ z = 0) (hdg : decode (yB y) pc = .ok (.ldiv, 1)) (k : G2 p l e R s m args below meth c Q g y c0 s0 (pc + 1) ls ((1, w64 (x.tdiv z)) :: r) h) : G2 p l e R s m args below meth c Q g y c0 s0 pc ls ((1, z) :: (1, x) :: r) h := by
  intro lsR H locs hR hl hv hS hc hs
  refine lv_ldiv (x := i64 x) (y := i64 z) (rest := r.map (cv g)) C.1 C.2.1 hdg (fun q => hz ((l_eq (in1 hv) (by unfold InL; omega)).mp (q.trans (rfl : (0 : Int64) = i64 0)))) ?_
  rw [l_div (in1 (vtl hv)) (in1 hv)]
  exact k lsR H locs hR hl (vcs (vok1 (w64_in _)) (vtl (vtl hv))) hS hc hs
theorem s_lneg (C : Ctx p l s m args meth c g y) {x : Int} (hdg : decode (yB y) pc = .ok (.lneg, 1)) (k : G2 p l e R s m args below meth c Q g y c0 s0 (pc + 1) ls ((1, w64 (-x)) :: r) h) : G2 p l e R s m args below meth c Q g y c0 s0 pc ls ((1, x) :: r) h := by
  intro lsR H locs hR hl hv hS hc hs
  refine lv_lneg (x := i64 x) (rest := r.map (cv g)) C.1 C.2.1 hdg ?_
  rw [l_neg]
  exact k lsR H locs hR hl (vcs (vok1 (w64_in _)) (vtl hv)) hS hc hs
theorem s_lcmp (C : Ctx p l s m args meth c g y) {x z : Int} (hdg : decode (yB y) pc = .ok (.lcmp, 1)) (k : G2 p l e R s m args below meth c Q g y c0 s0 (pc + 1) ls ((0, lcm x z) :: r) h) : G2 p l e R s m args below meth c Q g y c0 s0 pc ls ((1, z) :: (1, x) :: r) h := by
  intro lsR H locs hR hl hv hS hc hs
  refine W.lcmp (x := i64 x) (y := i64 z) (rest := r.map (cv g)) C.1 C.2.1 hdg ?_
  rw [n_lcm (in1 (vtl hv)) (in1 hv)]
  exact k lsR H locs hR hl (vcs (vok0 (lcm_in _ _)) (vtl (vtl hv))) hS hc hs
theorem s_i2l (C : Ctx p l s m args meth c g y) {x : Int} (hdg : decode (yB y) pc = .ok (.i2l, 1)) (k : G2 p l e R s m args below meth c Q g y c0 s0 (pc + 1) ls ((1, x) :: r) h) : G2 p l e R s m args below meth c Q g y c0 s0 pc ls ((0, x) :: r) h := by
  intro lsR H locs hR hl hv hS hc hs
  refine lv_i2l (x := i32 x) (v := i64 x) (rest := r.map (cv g)) C.1 C.2.1 hdg (n_i2l (in0 hv)) ?_
  exact k lsR H locs hR hl (vcs (vok1 (by have := in0 hv; unfold InR at this; unfold InL; omega)) (vtl hv)) hS hc hs
theorem s_l2i (C : Ctx p l s m args meth c g y) {x : Int} (hdg : decode (yB y) pc = .ok (.l2i, 1)) (k : G2 p l e R s m args below meth c Q g y c0 s0 (pc + 1) ls ((0, w32 x) :: r) h) : G2 p l e R s m args below meth c Q g y c0 s0 pc ls ((1, x) :: r) h := by
  intro lsR H locs hR hl hv hS hc hs
  refine lv_l2i (x := i64 x) (v := i32 (w32 x)) (rest := r.map (cv g)) C.1 C.2.1 hdg (n_l2i (in1 hv)) ?_
  exact k lsR H locs hR hl (vcs (vok0 (w32_in _)) (vtl hv)) hS hc hs
theorem s_i2c (C : Ctx p l s m args meth c g y) {x : Int} (hdg : decode (yB y) pc = .ok (.i2c, 1)) (k : G2 p l e R s m args below meth c Q g y c0 s0 (pc + 1) ls ((0, x % 65536) :: r) h) : G2 p l e R s m args below meth c Q g y c0 s0 pc ls ((0, x) :: r) h := by
  intro lsR H locs hR hl hv hS hc hs
  refine lv_i2c (x := i32 x) (v := i32 (x % 65536)) (rest := r.map (cv g)) C.1 C.2.1 hdg (n_i2c x) ?_
  exact k lsR H locs hR hl (vcs (vok0 (by unfold InR; omega)) (vtl hv)) hS hc hs
theorem s_iconst (C : Ctx p l s m args meth c g y) {n : Int} (hn : -1 ≤ n ∧ n ≤ 5) (hdg : decode (yB y) pc = .ok (.iconst n, 1)) (k : G2 p l e R s m args below meth c Q g y c0 s0 (pc + 1) ls ((0, n) :: r) h) : G2 p l e R s m args below meth c Q g y c0 s0 pc ls (r) h := by
  intro lsR H locs hR hl hv hS hc hs
  refine lv_iconst (v := i32 n) C.1 C.2.1 hdg rfl ?_
  exact k lsR H locs hR hl (vcs (vok0 (by unfold InR; omega)) hv) hS hc hs
theorem s_bipush (C : Ctx p l s m args meth c g y) {n : Int} (hn : -128 ≤ n ∧ n < 128) (hdg : decode (yB y) pc = .ok (.bipush n, 2)) (k : G2 p l e R s m args below meth c Q g y c0 s0 (pc + 2) ls ((0, n) :: r) h) : G2 p l e R s m args below meth c Q g y c0 s0 pc ls (r) h := by
  intro lsR H locs hR hl hv hS hc hs
  refine lv_bipush (v := i32 n) C.1 C.2.1 hdg (bipush_v hn) ?_
  exact k lsR H locs hR hl (vcs (vok0 (by unfold InR; omega)) hv) hS hc hs
theorem s_sipush (C : Ctx p l s m args meth c g y) {n : Int} (hn : -32768 ≤ n ∧ n < 32768) (hdg : decode (yB y) pc = .ok (.sipush n, 3)) (k : G2 p l e R s m args below meth c Q g y c0 s0 (pc + 3) ls ((0, n) :: r) h) : G2 p l e R s m args below meth c Q g y c0 s0 pc ls (r) h := by
  intro lsR H locs hR hl hv hS hc hs
  refine lv_sipush (v := i32 n) C.1 C.2.1 hdg (sipush_v hn) ?_
  exact k lsR H locs hR hl (vcs (vok0 (by unfold InR; omega)) hv) hS hc hs
theorem s_lconst (C : Ctx p l s m args meth c g y) {n : Fin 2} (hdg : decode (yB y) pc = .ok (.lconst n, 1)) (k : G2 p l e R s m args below meth c Q g y c0 s0 (pc + 1) ls ((1, ((n.val : Nat) : Int)) :: r) h) : G2 p l e R s m args below meth c Q g y c0 s0 pc ls (r) h := by
  intro lsR H locs hR hl hv hS hc hs
  refine lv_lconst (v := i64 ((n.val : Nat) : Int)) C.1 C.2.1 hdg (Int64.ofInt_eq_ofNat).symm ?_
  exact k lsR H locs hR hl (vcs (vok1 (by have := n.isLt; unfold InL; omega)) hv) hS hc hs
theorem s_iload_n (C : Ctx p l s m args meth c g y) {n : Fin 4} {x : Int} (hx : ls[n.val]? = some (0, x)) (hdg : decode (yB y) pc = .ok (.iload_n n, 1)) (k : G2 p l e R s m args below meth c Q g y c0 s0 (pc + 1) ls ((0, x) :: r) h) : G2 p l e R s m args below meth c Q g y c0 s0 pc ls (r) h := by
  intro lsR H locs hR hl hv hS hc hs
  refine lv_iload_n (x := i32 x) C.1 C.2.1 hdg rfl (lrel_get hl hx (by decide)).1 ?_
  exact k lsR H locs hR hl (vcs (lrel_get hl hx (by decide)).2 hv) hS hc hs
theorem s_iload (C : Ctx p l s m args meth c g y) {n : Nat} {x : Int} (hx : ls[n]? = some (0, x)) (hdg : decode (yB y) pc = .ok (.iload n, 2)) (k : G2 p l e R s m args below meth c Q g y c0 s0 (pc + 2) ls ((0, x) :: r) h) : G2 p l e R s m args below meth c Q g y c0 s0 pc ls (r) h := by
  intro lsR H locs hR hl hv hS hc hs
  refine lv_iload (x := i32 x) C.1 C.2.1 hdg (lrel_get hl hx (by decide)).1 ?_
  exact k lsR H locs hR hl (vcs (lrel_get hl hx (by decide)).2 hv) hS hc hs
theorem s_lload_n (C : Ctx p l s m args meth c g y) {n : Fin 4} {x : Int} (hx : ls[n.val]? = some (1, x)) (hdg : decode (yB y) pc = .ok (.lload_n n, 1)) (k : G2 p l e R s m args below meth c Q g y c0 s0 (pc + 1) ls ((1, x) :: r) h) : G2 p l e R s m args below meth c Q g y c0 s0 pc ls (r) h := by
  intro lsR H locs hR hl hv hS hc hs
  refine lv_lload_n (x := i64 x) C.1 C.2.1 hdg rfl (lrel_get hl hx (by decide)).1 ?_
  exact k lsR H locs hR hl (vcs (lrel_get hl hx (by decide)).2 hv) hS hc hs
theorem s_lload (C : Ctx p l s m args meth c g y) {n : Nat} {x : Int} (hx : ls[n]? = some (1, x)) (hdg : decode (yB y) pc = .ok (.lload n, 2)) (k : G2 p l e R s m args below meth c Q g y c0 s0 (pc + 2) ls ((1, x) :: r) h) : G2 p l e R s m args below meth c Q g y c0 s0 pc ls (r) h := by
  intro lsR H locs hR hl hv hS hc hs
  refine lv_lload (x := i64 x) C.1 C.2.1 hdg (lrel_get hl hx (by decide)).1 ?_
  exact k lsR H locs hR hl (vcs (lrel_get hl hx (by decide)).2 hv) hS hc hs
theorem s_aload_n (C : Ctx p l s m args meth c g y) {n : Fin 4} {x : Int} (hx : ls[n.val]? = some (2, x)) (hdg : decode (yB y) pc = .ok (.aload_n n, 1)) (k : G2 p l e R s m args below meth c Q g y c0 s0 (pc + 1) ls ((2, x) :: r) h) : G2 p l e R s m args below meth c Q g y c0 s0 pc ls (r) h := by
  intro lsR H locs hR hl hv hS hc hs
  have hx1 : lsR[n.val]? = some (.val (va_rf (rfo g x))) := (lrel_get hl hx (by decide)).1
  have kk := k lsR H locs hR hl (vcs vok2 hv) hS hc hs
  have kk : W p l e R s m args below meth c H locs (cnt h - c0) (ssum h - s0) Q (F0 m (pc + 1) lsR (va_rf (rfo g x) :: r.map (cv g))) := kk
  cases hq : rfo g x with
  | none =>
    rw [hq] at hx1 kk
    exact lv_aload_nN C.1 C.2.1 hdg rfl hx1 kk
  | some q =>
    rw [hq] at hx1 kk
    exact lv_aload_n C.1 C.2.1 hdg rfl hx1 kk
theorem s_aload (C : Ctx p l s m args meth c g y) {n : Nat} {x : Int} (hx : ls[n]? = some (2, x)) (hdg : decode (yB y) pc = .ok (.aload n, 2)) (k : G2 p l e R s m args below meth c Q g y c0 s0 (pc + 2) ls ((2, x) :: r) h) : G2 p l e R s m args below meth c Q g y c0 s0 pc ls (r) h := by
  intro lsR H locs hR hl hv hS hc hs
  have hx1 : lsR[n]? = some (.val (va_rf (rfo g x))) := (lrel_get hl hx (by decide)).1
  have kk := k lsR H locs hR hl (vcs vok2 hv) hS hc hs
  have kk : W p l e R s m args below meth c H locs (cnt h - c0) (ssum h - s0) Q (F0 m (pc + 2) lsR (va_rf (rfo g x) :: r.map (cv g))) := kk
  cases hq : rfo g x with
  | none =>
    rw [hq] at hx1 kk
    exact lv_aloadN C.1 C.2.1 hdg hx1 kk
  | some q =>
    rw [hq] at hx1 kk
    exact lv_aload C.1 C.2.1 hdg hx1 kk
theorem s_istore_n (C : Ctx p l s m args meth c g y) {n : Fin 4} {x : Int} (hn : okS ls n.val = true ∧ n.val < ls.length) (hdg : decode (yB y) pc = .ok (.istore_n n, 1)) (k : G2 p l e R s m args below meth c Q g y c0 s0 (pc + 1) (ls.set n.val (0, x)) r h) : G2 p l e R s m args below meth c Q g y c0 s0 pc ls ((0, x) :: r) h := by
  intro lsR H locs hR hl hv hS hc hs
  refine lv_istore_n (x := i32 x) (rest := r.map (cv g)) C.1 C.2.1 hdg rfl hl.1 (by rw [← hl.2.1]; exact hn.2) rfl (fun ls' h' => ?_)
  exact k ls' H locs hR (lrel_set1 hl hn.1 hn.2 (vhd hv) (show (0 : Nat) ≠ 1 by decide) h') (vtl hv) hS hc hs
theorem s_istore (C : Ctx p l s m args meth c g y) {n : Nat} {x : Int} (hn : okS ls n = true ∧ n < ls.length) (hdg : decode (yB y) pc = .ok (.istore n, 2)) (k : G2 p l e R s m args below meth c Q g y c0 s0 (pc + 2) (ls.set n (0, x)) r h) : G2 p l e R s m args below meth c Q g y c0 s0 pc ls ((0, x) :: r) h := by
  intro lsR H locs hR hl hv hS hc hs
  refine lv_istore (x := i32 x) (rest := r.map (cv g)) C.1 C.2.1 hdg hl.1 (by rw [← hl.2.1]; exact hn.2) rfl (fun ls' h' => ?_)
  exact k ls' H locs hR (lrel_set1 hl hn.1 hn.2 (vhd hv) (show (0 : Nat) ≠ 1 by decide) h') (vtl hv) hS hc hs
theorem s_astore_n (C : Ctx p l s m args meth c g y) {n : Fin 4} {x : Int} (hn : okS ls n.val = true ∧ n.val < ls.length) (hdg : decode (yB y) pc = .ok (.astore_n n, 1)) (k : G2 p l e R s m args below meth c Q g y c0 s0 (pc + 1) (ls.set n.val (2, x)) r h) : G2 p l e R s m args below meth c Q g y c0 s0 pc ls ((2, x) :: r) h := by
  intro lsR H locs hR hl hv hS hc hs
  show W p l e R s m args below meth c H locs (cnt h - c0) (ssum h - s0) Q (F0 m pc lsR (va_rf (rfo g x) :: r.map (cv g)))
  have hcv : cv g (2, x) = va_rf (rfo g x) := rfl
  cases hq : rfo g x with
  | none =>
    refine lv_astore_nN (rest := r.map (cv g)) C.1 C.2.1 hdg rfl hl.1 (by rw [← hl.2.1]; exact hn.2) rfl (fun ls' h' => ?_)
    exact k ls' H locs hR (lrel_set1 hl hn.1 hn.2 (vhd hv) (show (2 : Nat) ≠ 1 by decide) (by rw [hcv, hq]; exact h')) (vtl hv) hS hc hs
  | some q =>
    refine lv_astore_n (rest := r.map (cv g)) C.1 C.2.1 hdg rfl hl.1 (by rw [← hl.2.1]; exact hn.2) rfl (fun ls' h' => ?_)
    exact k ls' H locs hR (lrel_set1 hl hn.1 hn.2 (vhd hv) (show (2 : Nat) ≠ 1 by decide) (by rw [hcv, hq]; exact h')) (vtl hv) hS hc hs
theorem s_astore (C : Ctx p l s m args meth c g y) {n : Nat} {x : Int} (hn : okS ls n = true ∧ n < ls.length) (hdg : decode (yB y) pc = .ok (.astore n, 2)) (k : G2 p l e R s m args below meth c Q g y c0 s0 (pc + 2) (ls.set n (2, x)) r h) : G2 p l e R s m args below meth c Q g y c0 s0 pc ls ((2, x) :: r) h := by
  intro lsR H locs hR hl hv hS hc hs
  show W p l e R s m args below meth c H locs (cnt h - c0) (ssum h - s0) Q (F0 m pc lsR (va_rf (rfo g x) :: r.map (cv g)))
  have hcv : cv g (2, x) = va_rf (rfo g x) := rfl
  cases hq : rfo g x with
  | none =>
    refine lv_astoreN (rest := r.map (cv g)) C.1 C.2.1 hdg hl.1 (by rw [← hl.2.1]; exact hn.2) rfl (fun ls' h' => ?_)
    exact k ls' H locs hR (lrel_set1 hl hn.1 hn.2 (vhd hv) (show (2 : Nat) ≠ 1 by decide) (by rw [hcv, hq]; exact h')) (vtl hv) hS hc hs
  | some q =>
    refine lv_astore (rest := r.map (cv g)) C.1 C.2.1 hdg hl.1 (by rw [← hl.2.1]; exact hn.2) rfl (fun ls' h' => ?_)
    exact k ls' H locs hR (lrel_set1 hl hn.1 hn.2 (vhd hv) (show (2 : Nat) ≠ 1 by decide) (by rw [hcv, hq]; exact h')) (vtl hv) hS hc hs
theorem s_lstore_n (C : Ctx p l s m args meth c g y) {n : Fin 4} {x : Int} (hn : okS ls n.val = true ∧ n.val + 1 < ls.length) (hdg : decode (yB y) pc = .ok (.lstore_n n, 1)) (k : G2 p l e R s m args below meth c Q g y c0 s0 (pc + 1) ((ls.set n.val (1, x)).set (n.val + 1) (9, 0)) r h) : G2 p l e R s m args below meth c Q g y c0 s0 pc ls ((1, x) :: r) h := by
  intro lsR H locs hR hl hv hS hc hs
  refine lv_lstore_n (x := i64 x) (rest := r.map (cv g)) C.1 C.2.1 hdg rfl hl.1 (by rw [← hl.2.1]; exact hn.2) rfl (fun ls' h' => ?_)
  exact k ls' H locs hR (lrel_set2 hl hn.1 hn.2 (in1 hv) h') (vtl hv) hS hc hs
theorem s_lstore (C : Ctx p l s m args meth c g y) {n : Nat} {x : Int} (hn : okS ls n = true ∧ n + 1 < ls.length) (hdg : decode (yB y) pc = .ok (.lstore n, 2)) (k : G2 p l e R s m args below meth c Q g y c0 s0 (pc + 2) ((ls.set n (1, x)).set (n + 1) (9, 0)) r h) : G2 p l e R s m args below meth c Q g y c0 s0 pc ls ((1, x) :: r) h := by
  intro lsR H locs hR hl hv hS hc hs
  refine lv_lstore (x := i64 x) (rest := r.map (cv g)) C.1 C.2.1 hdg hl.1 (by rw [← hl.2.1]; exact hn.2) rfl (fun ls' h' => ?_)
  exact k ls' H locs hR (lrel_set2 hl hn.1 hn.2 (in1 hv) h') (vtl hv) hS hc hs
theorem s_iinc (C : Ctx p l s m args meth c g y) {i : Nat} {n x : Int} (hx : ls[i]? = some (0, x)) (hn : okS ls i = true) (hdg : decode (yB y) pc = .ok (.iinc i n, 3)) (k : G2 p l e R s m args below meth c Q g y c0 s0 (pc + 3) (ls.set i (0, w32 (x + n))) r h) : G2 p l e R s m args below meth c Q g y c0 s0 pc ls (r) h := by
  intro lsR H locs hR hl hv hS hc hs
  have hi : i < ls.length := (List.getElem?_eq_some_iff.mp hx).1
  obtain ⟨kq, hkq⟩ := List.getElem?_of_mem ((pic_mem g (q := (i, .int (i32 x)))).mpr ⟨(0, x), hx, (by decide : 0 < 3), rfl⟩)
  refine lv_iinc (x := i32 x) (v := i32 (w32 (x + n))) C.1 C.2.1 hdg hl.1 hkq (n_add x n) (by rw [← hl.2.1]; exact hi) rfl (fun ls' h' => ?_)
  exact k ls' H locs hR (lrel_set1 hl hn hi (vok0 (w32_in _)) (show (0 : Nat) ≠ 1 by decide) h') hv hS hc hs
theorem s_dup (C : Ctx p l s m args meth c g y) {t : Nat} {x : Int} (ht : t = 0 ∨ t = 2) (hdg : decode (yB y) pc = .ok (.dup, 1)) (k : G2 p l e R s m args below meth c Q g y c0 s0 (pc + 1) ls ((t, x) :: (t, x) :: r) h) : G2 p l e R s m args below meth c Q g y c0 s0 pc ls ((t, x) :: r) h := by
  intro lsR H locs hR hl hv hS hc hs
  refine lv_dup (va := cv g (t, x)) (rest := r.map (cv g)) C.1 C.2.1 hdg (cv_cat1 g (by rcases ht with rfl | rfl <;> simp)) ?_
  exact k lsR H locs hR hl (vcs (vhd hv) hv) hS hc hs
theorem s_dup2 (C : Ctx p l s m args meth c g y) {x a : Int} (hdg : decode (yB y) pc = .ok (.dup2, 1)) (k : G2 p l e R s m args below meth c Q g y c0 s0 (pc + 1) ls ((0, x) :: (2, a) :: (0, x) :: (2, a) :: r) h) : G2 p l e R s m args below meth c Q g y c0 s0 pc ls ((0, x) :: (2, a) :: r) h := by
  intro lsR H locs hR hl hv hS hc hs
  refine lv_dup2_11 (va := cv g (0, x)) (vb := cv g (2, a)) (rest := r.map (cv g)) C.1 C.2.1 hdg rfl (rf_cat _) ?_
  exact k lsR H locs hR hl (vcs (vhd hv) (vcs (vhd (vtl hv)) hv)) hS hc hs
theorem s_pop (C : Ctx p l s m args meth c g y) {x : Int} (hdg : decode (yB y) pc = .ok (.pop, 1)) (k : G2 p l e R s m args below meth c Q g y c0 s0 (pc + 1) ls r h) : G2 p l e R s m args below meth c Q g y c0 s0 pc ls ((0, x) :: r) h := by
  intro lsR H locs hR hl hv hS hc hs
  refine lv_pop (va := cv g (0, x)) (rest := r.map (cv g)) C.1 C.2.1 hdg rfl ?_
  exact k lsR H locs hR hl (vtl hv) hS hc hs
theorem s_goto (C : Ctx p l s m args meth c g y) {f t : Int} (ht : (pc : Int) + f = t ∧ 0 ≤ t) (hdg : decode (yB y) pc = .ok (.goto f, 3)) (k : G2 p l e R s m args below meth c Q g y c0 s0 t.toNat ls r h) : G2 p l e R s m args below meth c Q g y c0 s0 pc ls r h := by
  intro lsR H locs hR hl hv hS hc hs
  refine lv_goto (tgt := t.toNat) C.1 C.2.1 hdg (tnn ht) ?_
  exact k lsR H locs hR hl hv hS hc hs
theorem s_if_eq (C : Ctx p l s m args meth c g y) {f t x : Int} (ht : (pc : Int) + f = t ∧ 0 ≤ t) (hdg : decode (yB y) pc = .ok (.ifCond .eq f, 3)) (kt : x = 0 → G2 p l e R s m args below meth c Q g y c0 s0 t.toNat ls r h) (kf : ¬ x = 0 → G2 p l e R s m args below meth c Q g y c0 s0 (pc + 3) ls r h) : G2 p l e R s m args below meth c Q g y c0 s0 pc ls ((0, x) :: r) h := by
  intro lsR H locs hR hl hv hS hc hs
  exact lv_if_eq (x := i32 x) (tgt := t.toNat) (rest := r.map (cv g)) C.1 C.2.1 hdg (tnn ht) (fun q => kt ((n_eq (in0 hv) (show InR 0 by unfold InR; omega)).mp q) lsR H locs hR hl (vtl hv) hS hc hs) (fun q => kf (fun z => q ((n_eq (in0 hv) (show InR 0 by unfold InR; omega)).mpr z)) lsR H locs hR hl (vtl hv) hS hc hs)
theorem s_icmp_eq (C : Ctx p l s m args meth c g y) {f t x z : Int} (ht : (pc : Int) + f = t ∧ 0 ≤ t) (hdg : decode (yB y) pc = .ok (.if_icmp .eq f, 3)) (kt : x = z → G2 p l e R s m args below meth c Q g y c0 s0 t.toNat ls r h) (kf : ¬ x = z → G2 p l e R s m args below meth c Q g y c0 s0 (pc + 3) ls r h) : G2 p l e R s m args below meth c Q g y c0 s0 pc ls ((0, z) :: (0, x) :: r) h := by
  intro lsR H locs hR hl hv hS hc hs
  exact lv_icmp_eq (x := i32 x) (y := i32 z) (tgt := t.toNat) (rest := r.map (cv g)) C.1 C.2.1 hdg (tnn ht) (fun q => kt ((n_eq (in0 (vtl hv)) (in0 hv)).mp q) lsR H locs hR hl (vtl (vtl hv)) hS hc hs) (fun q => kf (fun z => q ((n_eq (in0 (vtl hv)) (in0 hv)).mpr z)) lsR H locs hR hl (vtl (vtl hv)) hS hc hs)
theorem s_if_ne (C : Ctx p l s m args meth c g y) {f t x : Int} (ht : (pc : Int) + f = t ∧ 0 ≤ t) (hdg : decode (yB y) pc = .ok (.ifCond .ne f, 3)) (kt : ¬ x = 0 → G2 p l e R s m args below meth c Q g y c0 s0 t.toNat ls r h) (kf : x = 0 → G2 p l e R s m args below meth c Q g y c0 s0 (pc + 3) ls r h) : G2 p l e R s m args below meth c Q g y c0 s0 pc ls ((0, x) :: r) h := by
  intro lsR H locs hR hl hv hS hc hs
  exact lv_if_ne (x := i32 x) (tgt := t.toNat) (rest := r.map (cv g)) C.1 C.2.1 hdg (tnn ht) (fun q => kt (fun z => q ((n_eq (in0 hv) (show InR 0 by unfold InR; omega)).mpr z)) lsR H locs hR hl (vtl hv) hS hc hs) (fun q => kf ((n_eq (in0 hv) (show InR 0 by unfold InR; omega)).mp q) lsR H locs hR hl (vtl hv) hS hc hs)
theorem s_icmp_ne (C : Ctx p l s m args meth c g y) {f t x z : Int} (ht : (pc : Int) + f = t ∧ 0 ≤ t) (hdg : decode (yB y) pc = .ok (.if_icmp .ne f, 3)) (kt : ¬ x = z → G2 p l e R s m args below meth c Q g y c0 s0 t.toNat ls r h) (kf : x = z → G2 p l e R s m args below meth c Q g y c0 s0 (pc + 3) ls r h) : G2 p l e R s m args below meth c Q g y c0 s0 pc ls ((0, z) :: (0, x) :: r) h := by
  intro lsR H locs hR hl hv hS hc hs
  exact lv_icmp_ne (x := i32 x) (y := i32 z) (tgt := t.toNat) (rest := r.map (cv g)) C.1 C.2.1 hdg (tnn ht) (fun q => kt (fun z => q ((n_eq (in0 (vtl hv)) (in0 hv)).mpr z)) lsR H locs hR hl (vtl (vtl hv)) hS hc hs) (fun q => kf ((n_eq (in0 (vtl hv)) (in0 hv)).mp q) lsR H locs hR hl (vtl (vtl hv)) hS hc hs)
theorem s_if_lt (C : Ctx p l s m args meth c g y) {f t x : Int} (ht : (pc : Int) + f = t ∧ 0 ≤ t) (hdg : decode (yB y) pc = .ok (.ifCond .lt f, 3)) (kt : x < 0 → G2 p l e R s m args below meth c Q g y c0 s0 t.toNat ls r h) (kf : ¬ x < 0 → G2 p l e R s m args below meth c Q g y c0 s0 (pc + 3) ls r h) : G2 p l e R s m args below meth c Q g y c0 s0 pc ls ((0, x) :: r) h := by
  intro lsR H locs hR hl hv hS hc hs
  exact lv_if_lt (x := i32 x) (tgt := t.toNat) (rest := r.map (cv g)) C.1 C.2.1 hdg (tnn ht) (fun q => kt ((n_lt (in0 hv) (show InR 0 by unfold InR; omega)).mp q) lsR H locs hR hl (vtl hv) hS hc hs) (fun q => kf (fun z => q ((n_lt (in0 hv) (show InR 0 by unfold InR; omega)).mpr z)) lsR H locs hR hl (vtl hv) hS hc hs)
theorem s_icmp_lt (C : Ctx p l s m args meth c g y) {f t x z : Int} (ht : (pc : Int) + f = t ∧ 0 ≤ t) (hdg : decode (yB y) pc = .ok (.if_icmp .lt f, 3)) (kt : x < z → G2 p l e R s m args below meth c Q g y c0 s0 t.toNat ls r h) (kf : ¬ x < z → G2 p l e R s m args below meth c Q g y c0 s0 (pc + 3) ls r h) : G2 p l e R s m args below meth c Q g y c0 s0 pc ls ((0, z) :: (0, x) :: r) h := by
  intro lsR H locs hR hl hv hS hc hs
  exact lv_icmp_lt (x := i32 x) (y := i32 z) (tgt := t.toNat) (rest := r.map (cv g)) C.1 C.2.1 hdg (tnn ht) (fun q => kt ((n_lt (in0 (vtl hv)) (in0 hv)).mp q) lsR H locs hR hl (vtl (vtl hv)) hS hc hs) (fun q => kf (fun z => q ((n_lt (in0 (vtl hv)) (in0 hv)).mpr z)) lsR H locs hR hl (vtl (vtl hv)) hS hc hs)
theorem s_if_ge (C : Ctx p l s m args meth c g y) {f t x : Int} (ht : (pc : Int) + f = t ∧ 0 ≤ t) (hdg : decode (yB y) pc = .ok (.ifCond .ge f, 3)) (kt : ¬ x < 0 → G2 p l e R s m args below meth c Q g y c0 s0 t.toNat ls r h) (kf : x < 0 → G2 p l e R s m args below meth c Q g y c0 s0 (pc + 3) ls r h) : G2 p l e R s m args below meth c Q g y c0 s0 pc ls ((0, x) :: r) h := by
  intro lsR H locs hR hl hv hS hc hs
  exact lv_if_ge (x := i32 x) (tgt := t.toNat) (rest := r.map (cv g)) C.1 C.2.1 hdg (tnn ht) (fun q => kt (fun z => Int32.not_lt.mpr q ((n_lt (in0 hv) (show InR 0 by unfold InR; omega)).mpr z)) lsR H locs hR hl (vtl hv) hS hc hs) (fun q => kf (Classical.byContradiction (fun z => q (Int32.not_lt.mp (fun w => z ((n_lt (in0 hv) (show InR 0 by unfold InR; omega)).mp w))))) lsR H locs hR hl (vtl hv) hS hc hs)
theorem s_icmp_ge (C : Ctx p l s m args meth c g y) {f t x z : Int} (ht : (pc : Int) + f = t ∧ 0 ≤ t) (hdg : decode (yB y) pc = .ok (.if_icmp .ge f, 3)) (kt : ¬ x < z → G2 p l e R s m args below meth c Q g y c0 s0 t.toNat ls r h) (kf : x < z → G2 p l e R s m args below meth c Q g y c0 s0 (pc + 3) ls r h) : G2 p l e R s m args below meth c Q g y c0 s0 pc ls ((0, z) :: (0, x) :: r) h := by
  intro lsR H locs hR hl hv hS hc hs
  exact lv_icmp_ge (x := i32 x) (y := i32 z) (tgt := t.toNat) (rest := r.map (cv g)) C.1 C.2.1 hdg (tnn ht) (fun q => kt (fun z => Int32.not_lt.mpr q ((n_lt (in0 (vtl hv)) (in0 hv)).mpr z)) lsR H locs hR hl (vtl (vtl hv)) hS hc hs) (fun q => kf (Classical.byContradiction (fun z => q (Int32.not_lt.mp (fun w => z ((n_lt (in0 (vtl hv)) (in0 hv)).mp w))))) lsR H locs hR hl (vtl (vtl hv)) hS hc hs)
theorem s_if_gt (C : Ctx p l s m args meth c g y) {f t x : Int} (ht : (pc : Int) + f = t ∧ 0 ≤ t) (hdg : decode (yB y) pc = .ok (.ifCond .gt f, 3)) (kt : 0 < x → G2 p l e R s m args below meth c Q g y c0 s0 t.toNat ls r h) (kf : ¬ 0 < x → G2 p l e R s m args below meth c Q g y c0 s0 (pc + 3) ls r h) : G2 p l e R s m args below meth c Q g y c0 s0 pc ls ((0, x) :: r) h := by
  intro lsR H locs hR hl hv hS hc hs
  exact lv_if_gt (x := i32 x) (tgt := t.toNat) (rest := r.map (cv g)) C.1 C.2.1 hdg (tnn ht) (fun q => kt ((n_lt (show InR 0 by unfold InR; omega) (in0 hv)).mp q) lsR H locs hR hl (vtl hv) hS hc hs) (fun q => kf (fun z => q ((n_lt (show InR 0 by unfold InR; omega) (in0 hv)).mpr z)) lsR H locs hR hl (vtl hv) hS hc hs)
theorem s_icmp_gt (C : Ctx p l s m args meth c g y) {f t x z : Int} (ht : (pc : Int) + f = t ∧ 0 ≤ t) (hdg : decode (yB y) pc = .ok (.if_icmp .gt f, 3)) (kt : z < x → G2 p l e R s m args below meth c Q g y c0 s0 t.toNat ls r h) (kf : ¬ z < x → G2 p l e R s m args below meth c Q g y c0 s0 (pc + 3) ls r h) : G2 p l e R s m args below meth c Q g y c0 s0 pc ls ((0, z) :: (0, x) :: r) h := by
  intro lsR H locs hR hl hv hS hc hs
  exact lv_icmp_gt (x := i32 x) (y := i32 z) (tgt := t.toNat) (rest := r.map (cv g)) C.1 C.2.1 hdg (tnn ht) (fun q => kt ((n_lt (in0 hv) (in0 (vtl hv))).mp q) lsR H locs hR hl (vtl (vtl hv)) hS hc hs) (fun q => kf (fun z => q ((n_lt (in0 hv) (in0 (vtl hv))).mpr z)) lsR H locs hR hl (vtl (vtl hv)) hS hc hs)
theorem s_if_le (C : Ctx p l s m args meth c g y) {f t x : Int} (ht : (pc : Int) + f = t ∧ 0 ≤ t) (hdg : decode (yB y) pc = .ok (.ifCond .le f, 3)) (kt : ¬ 0 < x → G2 p l e R s m args below meth c Q g y c0 s0 t.toNat ls r h) (kf : 0 < x → G2 p l e R s m args below meth c Q g y c0 s0 (pc + 3) ls r h) : G2 p l e R s m args below meth c Q g y c0 s0 pc ls ((0, x) :: r) h := by
  intro lsR H locs hR hl hv hS hc hs
  exact lv_if_le (x := i32 x) (tgt := t.toNat) (rest := r.map (cv g)) C.1 C.2.1 hdg (tnn ht) (fun q => kt (fun z => Int32.not_lt.mpr q ((n_lt (show InR 0 by unfold InR; omega) (in0 hv)).mpr z)) lsR H locs hR hl (vtl hv) hS hc hs) (fun q => kf (Classical.byContradiction (fun z => q (Int32.not_lt.mp (fun w => z ((n_lt (show InR 0 by unfold InR; omega) (in0 hv)).mp w))))) lsR H locs hR hl (vtl hv) hS hc hs)
theorem s_icmp_le (C : Ctx p l s m args meth c g y) {f t x z : Int} (ht : (pc : Int) + f = t ∧ 0 ≤ t) (hdg : decode (yB y) pc = .ok (.if_icmp .le f, 3)) (kt : ¬ z < x → G2 p l e R s m args below meth c Q g y c0 s0 t.toNat ls r h) (kf : z < x → G2 p l e R s m args below meth c Q g y c0 s0 (pc + 3) ls r h) : G2 p l e R s m args below meth c Q g y c0 s0 pc ls ((0, z) :: (0, x) :: r) h := by
  intro lsR H locs hR hl hv hS hc hs
  exact lv_icmp_le (x := i32 x) (y := i32 z) (tgt := t.toNat) (rest := r.map (cv g)) C.1 C.2.1 hdg (tnn ht) (fun q => kt (fun z => Int32.not_lt.mpr q ((n_lt (in0 hv) (in0 (vtl hv))).mpr z)) lsR H locs hR hl (vtl (vtl hv)) hS hc hs) (fun q => kf (Classical.byContradiction (fun z => q (Int32.not_lt.mp (fun w => z ((n_lt (in0 hv) (in0 (vtl hv))).mp w))))) lsR H locs hR hl (vtl (vtl hv)) hS hc hs)
end ST
