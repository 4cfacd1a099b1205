section ST2
variable {p : Program} {l : Launch} {e : Env} {R : Room} {s : State} {m : MethodId} {args : Array Value} {below : List Frame} {meth : Method} {c : Code} {Q : State → Prop} {g : GG} {y c0 s0 pc : Nat} {ls r : List MV} {h : Hp}
theorem fld0_row {o ix : Nat} {cc k t z : Int} (hf : fld0 o ix cc k t z = true) : ∃ q ∈ FL, q.1 = o ∧ q.2.1 = ix ∧ q.2.2.1 = cc.toNat ∧ ((q.2.2.2.1 : Nat) : Int) = k ∧ q.2.2.2.2.1 = t.toNat ∧ ((q.2.2.2.2.2.1 : Nat) : Int) = z ∧ 0 ≤ t ∧ FLP q := by
  unfold fld0 at hf
  obtain ⟨q, hq, h1⟩ := List.any_eq_true.mp hf
  simp only [Bool.and_eq_true, beq_iff_eq, decide_eq_true_eq] at h1
  obtain ⟨⟨⟨⟨⟨⟨h1, h2⟩, h3⟩, h4⟩, h5⟩, h6⟩, h7⟩ := h1
  exact ⟨q, hq, h1, h2, h3, h4, h5, h6, h7, FL_ok q hq⟩
theorem s_getfield (C : Ctx p l s m args meth c g y) {i : Nat} {cc k t z a : Int} (hf : fld0 (yO y) i cc k t z = true) (h20 : 20 ≤ cc) (ho : okF h a cc.toNat = true) (hdg : decode (yB y) pc = .ok (.getfield i, 3)) (kk : G2 p l e R s m args below meth c Q g y c0 s0 (pc + 3) ls ((t.toNat, ld h a k) :: r) h) : G2 p l e R s m args below meth c Q g y c0 s0 pc ls ((2, a) :: r) h := by
  intro lsR H locs hR hl hv hS hc hs
  obtain ⟨q, -, q1, q2, q3, q4, q5, q6, q7, f1, f2, f3, f4, f5, f6⟩ := fld0_row hf
  obtain ⟨hx, hb, hml, hown, hts, hKN, -⟩ := C
  have h20' : 20 ≤ q.2.2.1 := by omega
  rw [← q3] at ho
  obtain ⟨ra, cf, kf, fi, f, cell, e1, e2, e3, e4, e5, e6, e7⟩ := rd_obj hts hKN hS hR h20' f4 ho
  have et : dtg (fds q.2.2.1 q.2.2.2.1) = t.toNat := by rw [← q5]; exact f5
  rw [et, q4] at e6 e7
  have kk := kk lsR H locs hR hl (vcs e7 (vtl hv)) hS hc hs
  show W p l e R s m args below meth c H locs (cnt h - c0) (ssum h - s0) Q (F0 m pc lsR (va_rf (rfo g a) :: r.map (cv g)))
  rw [e1]
  rw [q1, q2] at f1 f2
  have : q.2.2.2.2.2.2 = 0 ∨ q.2.2.2.2.2.2 = 1 := by omega
  rcases this with hn | hn
  · exact W.getf hx hb hown (hts _ (f1 hn) rfl) e2 e3 e4 e5 e6 rfl rfl hdg kk
  · exact va_Wgetf hx hb hown (va_Nw.use rfl (hKN.2.1 _ (f2 hn) rfl)) e2 e3 e4 e5 e6 rfl rfl hdg kk
theorem s_iaload (C : Ctx p l s m args meth c g y) {i a : Int} (ho : okF h a 0 = true) (hi : 0 ≤ i ∧ i < len h a) (hdg : decode (yB y) pc = .ok (.iaload, 1)) (kk : G2 p l e R s m args below meth c Q g y c0 s0 (pc + 1) ls ((0, ld h a i) :: r) h) : G2 p l e R s m args below meth c Q g y c0 s0 pc ls ((0, i) :: (2, a) :: r) h := by
  intro lsR H locs hR hl hv hS hc hs
  obtain ⟨hx, hb, hml, hown, hts, hKN, -⟩ := C
  obtain ⟨ra, n, cell, e1, e2, e3, e4, -, e5, e6, -, e7, e8, -⟩ := rd_arr hKN hS hR (by decide) ho
  rw [e5] at hi
  obtain ⟨i1, i2⟩ := idx_in (in0 hv) hi
  have hi3 : ((i.toNat : Nat) : Int) = i := by omega
  have e9 := e7 i.toNat (by omega)
  rw [hi3] at e9
  have kk := kk lsR H locs hR hl (vcs (vok0 ((e8 i hi.1 hi.2).1 (Or.inl rfl))) (vtl (vtl hv))) hS hc hs
  show W p l e R s m args below meth c H locs (cnt h - c0) (ssum h - s0) Q (F0 m pc lsR (.int (i32 i) :: va_rf (rfo g a) :: r.map (cv g)))
  rw [e1]
  exact W.iald hx hb e2 e3 e4 (fun q => i1 (q.imp id (fun q => Nat.le_trans e6 q))) (by rw [i2]; exact e9) rfl rfl hdg kk
theorem s_laload (C : Ctx p l s m args meth c g y) {i a : Int} (ho : okF h a 1 = true) (hi : 0 ≤ i ∧ i < len h a) (hdg : decode (yB y) pc = .ok (.laload, 1)) (kk : G2 p l e R s m args below meth c Q g y c0 s0 (pc + 1) ls ((1, ld h a i) :: r) h) : G2 p l e R s m args below meth c Q g y c0 s0 pc ls ((0, i) :: (2, a) :: r) h := by
  intro lsR H locs hR hl hv hS hc hs
  obtain ⟨hx, hb, hml, hown, hts, hKN, -⟩ := C
  obtain ⟨ra, n, cell, e1, e2, e3, e4, -, e5, e6, -, e7, e8, -⟩ := rd_arr hKN hS hR (by decide) ho
  rw [e5] at hi
  obtain ⟨i1, i2⟩ := idx_in (in0 hv) hi
  have hi3 : ((i.toNat : Nat) : Int) = i := by omega
  have e9 := e7 i.toNat (by omega)
  rw [hi3] at e9
  have kk := kk lsR H locs hR hl (vcs (vok1 ((e8 i hi.1 hi.2).2.1 rfl)) (vtl (vtl hv))) hS hc hs
  show W p l e R s m args below meth c H locs (cnt h - c0) (ssum h - s0) Q (F0 m pc lsR (.int (i32 i) :: va_rf (rfo g a) :: r.map (cv g)))
  rw [e1]
  exact W.lald hx hb e2 e3 e4 (fun q => i1 (q.imp id (fun q => Nat.le_trans e6 q))) (by rw [i2]; exact e9) rfl rfl hdg kk
theorem s_caload (C : Ctx p l s m args meth c g y) {i a : Int} (ho : okF h a 3 = true) (hi : 0 ≤ i ∧ i < len h a) (hdg : decode (yB y) pc = .ok (.caload, 1)) (kk : G2 p l e R s m args below meth c Q g y c0 s0 (pc + 1) ls ((0, ld h a i) :: r) h) : G2 p l e R s m args below meth c Q g y c0 s0 pc ls ((0, i) :: (2, a) :: r) h := by
  intro lsR H locs hR hl hv hS hc hs
  obtain ⟨hx, hb, hml, hown, hts, hKN, -⟩ := C
  obtain ⟨ra, n, cell, e1, e2, e3, e4, -, e5, e6, -, e7, e8, -⟩ := rd_arr hKN hS hR (by decide) ho
  rw [e5] at hi
  obtain ⟨i1, i2⟩ := idx_in (in0 hv) hi
  have hi3 : ((i.toNat : Nat) : Int) = i := by omega
  have e9 := e7 i.toNat (by omega)
  rw [hi3] at e9
  have kk := kk lsR H locs hR hl (vcs (vok0 ((e8 i hi.1 hi.2).1 (Or.inr (Or.inr (Or.inl rfl))))) (vtl (vtl hv))) hS hc hs
  show W p l e R s m args below meth c H locs (cnt h - c0) (ssum h - s0) Q (F0 m pc lsR (.int (i32 i) :: va_rf (rfo g a) :: r.map (cv g)))
  rw [e1]
  exact W.cald hx hb e2 e3 e4 (fun q => i1 (q.imp id (fun q => Nat.le_trans e6 q))) (by rw [i2]; exact e9) rfl rfl hdg kk
theorem s_baload (C : Ctx p l s m args meth c g y) {i a : Int} {k : Nat} (hk : k = 2 ∨ k = 4) (ho : okF h a k = true) (hi : 0 ≤ i ∧ i < len h a) (hdg : decode (yB y) pc = .ok (.baload, 1)) (kk : G2 p l e R s m args below meth c Q g y c0 s0 (pc + 1) ls ((0, ld h a i) :: r) h) : G2 p l e R s m args below meth c Q g y c0 s0 pc ls ((0, i) :: (2, a) :: r) h := by
  intro lsR H locs hR hl hv hS hc hs
  obtain ⟨hx, hb, hml, hown, hts, hKN, -⟩ := C
  obtain ⟨ra, n, cell, e1, e2, e3, e4, -, e5, e6, -, e7, e8, -⟩ := rd_arr hKN hS hR (by omega) ho
  rw [e5] at hi
  obtain ⟨i1, i2⟩ := idx_in (in0 hv) hi
  have hi3 : ((i.toNat : Nat) : Int) = i := by omega
  have e9 := e7 i.toNat (by omega)
  rw [hi3] at e9
  have kk := kk lsR H locs hR hl (vcs (vok0 ((e8 i hi.1 hi.2).1 (hk.elim (fun q => Or.inr (Or.inl q)) (fun q => Or.inr (Or.inr (Or.inr q)))))) (vtl (vtl hv))) hS hc hs
  show W p l e R s m args below meth c H locs (cnt h - c0) (ssum h - s0) Q (F0 m pc lsR (.int (i32 i) :: va_rf (rfo g a) :: r.map (cv g)))
  rw [e1]
  rcases hk with rfl | rfl
  · exact W.zald hx hb e2 e3 e4 (fun q => i1 (q.imp id (fun q => Nat.le_trans e6 q))) (by rw [i2]; exact e9) rfl rfl hdg kk
  · exact W.bald hx hb e2 e3 e4 (fun q => i1 (q.imp id (fun q => Nat.le_trans e6 q))) (by rw [i2]; exact e9) rfl rfl hdg kk
theorem s_aaload (C : Ctx p l s m args meth c g y) {i a : Int} {k : Nat} (hk : 5 ≤ k ∧ k < 9) (ho : okF h a k = true) (hi : 0 ≤ i ∧ i < len h a) (hdg : decode (yB y) pc = .ok (.aaload, 1)) (kk : G2 p l e R s m args below meth c Q g y c0 s0 (pc + 1) ls ((2, ld h a i) :: r) h) : G2 p l e R s m args below meth c Q g y c0 s0 pc ls ((0, i) :: (2, a) :: r) h := by
  intro lsR H locs hR hl hv hS hc hs
  obtain ⟨hx, hb, hml, hown, hts, hKN, -⟩ := C
  obtain ⟨ra, n, cell, e1, e2, e3, e4, -, e5, e6, -, e7, e8, -⟩ := rd_arr hKN hS hR hk.2 ho
  rw [e5] at hi
  obtain ⟨i1, i2⟩ := idx_in (in0 hv) hi
  have hi3 : ((i.toNat : Nat) : Int) = i := by omega
  have e9 := e7 i.toNat (by omega)
  rw [hi3, show atg k = 2 by unfold atg; rw [if_neg (by omega), if_pos hk.1]] at e9
  have kk := kk lsR H locs hR hl (vcs vok2 (vtl (vtl hv))) hS hc hs
  show W p l e R s m args below meth c H locs (cnt h - c0) (ssum h - s0) Q (F0 m pc lsR (.int (i32 i) :: va_rf (rfo g a) :: r.map (cv g)))
  rw [e1]
  refine W.aald hx hb e2 e3 ?_ e4 (fun q => i1 (q.imp id (fun q => Nat.le_trans e6 q))) (by rw [i2]; exact e9) rfl rfl hdg kk
  have : k = 5 ∨ k = 6 ∨ k = 7 ∨ k = 8 := by omega
  rcases this with rfl | rfl | rfl | rfl <;> rfl
theorem s_alen (C : Ctx p l s m args meth c g y) {a : Int} {k : Nat} (hk : k < 9) (ho : okF h a k = true) (hbig : len h a < 2147483648) (hdg : decode (yB y) pc = .ok (.arraylength, 1)) (kk : G2 p l e R s m args below meth c Q g y c0 s0 (pc + 1) ls ((0, len h a) :: r) h) : G2 p l e R s m args below meth c Q g y c0 s0 pc ls ((2, a) :: r) h := by
  intro lsR H locs hR hl hv hS hc hs
  obtain ⟨hx, hb, hml, hown, hts, hKN, -⟩ := C
  obtain ⟨ra, n, cell, e1, e2, e3, e4, -, e5, e6, e7, -, -, -⟩ := rd_arr hKN hS hR hk ho
  have kk := kk lsR H locs hR hl (vcs (vok0 (by rw [e5] at hbig ⊢; unfold InR; omega)) (vtl hv)) hS hc hs
  show W p l e R s m args below meth c H locs (cnt h - c0) (ssum h - s0) Q (F0 m pc lsR (va_rf (rfo g a) :: r.map (cv g)))
  rw [e1]
  refine W.alen (n := i32 (len h a)) hx hb e2 e3 ?_ rfl rfl hdg kk
  rw [e7, e5]; exact Int32.ofInt_eq_ofNat.symm
end ST2
