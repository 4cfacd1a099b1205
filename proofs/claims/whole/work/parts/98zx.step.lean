/-! layer 2: one call of the law -/
def BY (z : Zt) : Prop := ∀ j : Int, 0 ≤ j → j < 700 → 0 ≤ z.tp j ∧ z.tp j ≤ 255
section SQs
variable {h : Hp} {z : Zt} {n : Int}
theorem okF50 (h : Hp) : okF h (-50) 0 = true := rfl
theorem len50 (h : Hp) : len h (-50) = (h.2.2.1 : Int) := rfl
theorem CR_M {h' : Hp} (c : CR h z) (w' : WF h') (f : ∀ a j : Int, a < 311 → ld h' a j = ld h a j) : CR h' z :=
  CR_small (tp' := z.tp) (tn' := z.tn) (fk' := z.fk) (fp' := z.fp) (dg' := z.dg) (sk' := z.sk) (sa' := z.sa) (sz' := z.sz) (kb' := z.kb) c w' (fun a j _ _ => f a j (by omega)) (fun j _ => f 1 j (by decide)) ((funext fun j => f 2 j (by decide)).trans c.tp) ((f 1 1 (by decide)).trans c.tn) c.tnb (by have := c.nb; unfold NB at this ⊢; rw [f 4 5 (by decide)]; exact this) ((f 3 7 (by decide)).trans c.fk) ((f 3 8 (by decide)).trans c.fp) (fun w t w0 w1 t0 t1 => (f _ _ (by omega)).trans (c.dg w t w0 w1 t0 t1)) (fun k k0 k1 => (f _ _ (by decide)).trans (c.sk k k0 k1)) (fun k k0 k1 => (f _ _ (by decide)).trans (c.sa k k0 k1)) ((f 308 2 (by decide)).trans c.sz) c.szb ((f 308 3 (by decide)).trans c.kb) c.kbb
theorem RR_C {h' : Hp} (c : RR n h z) (w' : WF h') (f : ∀ a j : Int, 311 ≤ a → ld h' a j = ld h a j) : RR n h' z := RR_keep c w' (fun x j e => f x j (by unfold rz at e; omega))
/-- what a call of both leaves -/
def SQ (P : Nat) (e : Nat) (i n : Int) (h : Hp) : Prop := ∃ h2 z' n', V (e + 200) 0 P [(2, -50), (2, 1), (2, 311), (2, 356), (0, i), (9, 0), (9, 0)] [] h = V (e + 200) 0 1048 [(2, -50), (2, 1), (2, 311), (2, 356), (0, i), (9, 0), (9, 0)] [] h2 ∧ CR h2 z' ∧ RR n' h2 z' ∧ BY z' ∧ (n ≤ n' ∧ n' ≤ n + 1) ∧ NG h h2 ∧ (h2.2.1 = h.2.1 ∧ h2.2.2.1 = h.2.2.1 ∧ h2.2.2.2 ≤ h.2.2.2 + 1)
theorem pairO (c : CR h z) (rr : RR n h z) {D k m : Nat} {asc asr : List (Nat × Int)} {t : Nat} {r n' : Int} {z' : Zt} (oc : OPc h z D k asc t r z') (orr : ∀ h1, RR n h1 z → OPr n h1 z D m asr t r n' z') : ∃ h1 h2, C D k asc h = some ((t, r), h1) ∧ WF h1 ∧ (∀ x, ld h1 (-50) x = ld h (-50) x) ∧ h1.2 = h.2 ∧ C D m asr h1 = some ((t, r), h2) ∧ CR h2 z' ∧ RR n' h2 z' ∧ NG h h2 ∧ h2.2 = h.2 := by
  obtain ⟨h1, a1, c1, f1⟩ := oc
  have w1 := c1.w
  obtain ⟨h2, a2, r2, f2⟩ := orr h1 (RR_C rr w1 f1.2)
  have g1 := C_ng a1
  have g2 := C_ng a2
  exact ⟨h1, h2, a1, w1, fun x => g1 (-50) x (by decide), f1.1, a2, CR_M c1 r2.k.w (fun a j u => f2.2 a j (Or.inl u)), r2, NG_tr g1 g2, f2.1.trans f1.1⟩
theorem SQ_of {P e : Nat} {i : Int} {h2 : Hp} {z' : Zt} {n' : Int} (a : V (e + 200) 0 P [(2, -50), (2, 1), (2, 311), (2, 356), (0, i), (9, 0), (9, 0)] [] h = V (e + 200) 0 1048 [(2, -50), (2, 1), (2, 311), (2, 356), (0, i), (9, 0), (9, 0)] [] h2) (c : CR h2 z') (r : RR n' h2 z') (b : BY z') (hn : n ≤ n' ∧ n' ≤ n + 1) (g : NG h h2) (s : h2.2 = h.2) : SQ P e i n h := ⟨h2, z', n', a, c, r, b, hn, g, by rw [s], by rw [s], by rw [s]; omega⟩
/-! the tape's bytes -/
theorem BY_tp {z' : Zt} (b : BY z) (e : z'.tp = z.tp) : BY z' := by
  unfold BY; rw [e]; exact b
theorem by4_b (v s : Int) : 0 ≤ by4 v s ∧ by4 v s ≤ 255 := by
  have := and255 (ushr32 v s)
  unfold by4; omega
theorem BY_feed (b : BY z) (a1 a2 a3 a4 a5 : Int) : BY (zFeed a1 a2 a3 a4 a5 z).2 := by
  have key : ∀ (v t : Int) (tp : Int → Int), (∀ j : Int, 0 ≤ j → j < 700 → 0 ≤ tp j ∧ tp j ≤ 255) → ∀ j : Int, 0 ≤ j → j < 700 → 0 ≤ pt4 v t tp j ∧ pt4 v t tp j ≤ 255 := fun v t tp hb j j0 j1 => by
    unfold pt4
    split
    · exact by4_b _ _
    split
    · exact by4_b _ _
    split
    · exact by4_b _ _
    split
    · exact by4_b _ _
    · exact hb j j0 j1
  unfold zFeed
  split
  · exact b
  · exact key _ _ _ (key _ _ _ (key _ _ _ (key _ _ _ (key _ _ _ b))))
theorem tp_text (x : Int) (z : Zt) : (zText x z).2.tp = z.tp := by
  unfold zText
  split
  · rfl
  · split <;> rfl
theorem tp_undo (z : Zt) : (zUndo z).2.tp = z.tp := by unfold zUndo; split <;> rfl
theorem tp_add (a b : Int) (z : Zt) : (zAdd a b z).2.tp = z.tp := by unfold zAdd; split <;> rfl
theorem tp_see (a b : Int) (z : Zt) : (zSee a b z).2.tp = z.tp := by
  unfold zSee; split
  · rfl
  · exact tp_add _ _ _
theorem tp_strike (a : Int) (z : Zt) : (zStrike a z).2.tp = z.tp := by
  unfold zStrike; split
  · rfl
  · exact tp_add _ _ _
theorem tp_known (a : Int) (z : Zt) : (zKnown a z).2.tp = z.tp := by unfold zKnown; split <;> rfl
theorem tp_back (z : Zt) : (zBack z).2.tp = z.tp := by unfold zBack; split <;> rfl
theorem tp_dayN : ∀ (m : Nat) (z : Zt), (zDayN m z).tp = z.tp
  | 0, _ => rfl
  | m + 1, z => (tp_dayN m _).trans rfl
theorem tp_days (x : Int) (z : Zt) : (zDays x z).2.tp = z.tp := by
  unfold zDays
  split
  · rfl
  · split
    · rfl
    · exact tp_dayN _ _
theorem tp_sell (x : Int) (z : Zt) : (zSell x z).2.tp = z.tp := by
  unfold zSell
  split
  · rfl
  · dsimp only
    split <;> rfl
theorem tp_dies (x : Int) (z : Zt) : (zDies x z).2.tp = z.tp := by unfold zDies; split <;> rfl
theorem tp_adopt (z : Zt) : (zAdopt z).2.tp = z.tp := by unfold zAdopt; split <;> rfl
theorem tp_forge (x : Int) (z : Zt) : (zForge x z).2.tp = z.tp := by unfold zForge; split <;> rfl
theorem tp_give (s x : Int) (z : Zt) : (zGive s x z).2.tp = z.tp := by unfold zGive; split <;> rfl
/-! each call -/
theorem st_241 (c : CR h z) (rr : RR n h z) (b : BY z) (hn : n < 600) (e : Nat) {i : Int} (rg : ∀ (h' : Hp) (j : Int), h'.2.2.1 = h.2.2.1 → (1 ≤ j ∧ j ≤ 5) → 0 ≤ w32 (i + j) ∧ w32 (i + j) < len h' (-50)) : SQ 241 e i n h := by
  obtain ⟨h1, h2, a1, w1, g1, s1, a2, c2, r2, ng, s2⟩ := pairO (D := e + 199) c rr (kq_4 c (ld h (-50) (w32 (i + 1))) (e + 189)) (fun h1 r1 => rk_174 r1 b c.tnb.2 (ld h (-50) (w32 (i + 1))) (e + 9))
  have w := c.w
  refine SQ_of ?_ c2 r2 (BY_tp b (tp_text _ z)) ⟨by omega, by omega⟩ ng s2
  rw [e0_241, if_pos (okF50 h), if_pos (rg h 1 rfl (by decide)), if_pos (F_a1 w), Cl_eq _ a1, if_pos (okF50 h1), if_pos (rg h1 1 (by rw [s1]) (by decide)), if_pos (F_a311 w1), g1, Cl_eq _ a2, e0_261, if_pos rfl]
theorem st_266 (c : CR h z) (rr : RR n h z) (b : BY z) (hn : n < 600) (e : Nat) {i : Int} (rg : ∀ (h' : Hp) (j : Int), h'.2.2.1 = h.2.2.1 → (1 ≤ j ∧ j ≤ 5) → 0 ≤ w32 (i + j) ∧ w32 (i + j) < len h' (-50)) : SQ 266 e i n h := by
  obtain ⟨h1, h2, a1, w1, g1, s1, a2, c2, r2, ng, s2⟩ := pairO (D := e + 199) c rr (OPc_rf c (kq_5 c (ld h (-50) (w32 (i + 1))) (e + 199))) (fun h1 r1 => rk_175 r1 (ld h (-50) (w32 (i + 1))) (e + 199))
  have w := c.w
  refine SQ_of ?_ c2 r2 b ⟨by omega, by omega⟩ ng s2
  rw [e0_266, if_pos (okF50 h), if_pos (rg h 1 rfl (by decide)), if_pos (F_a1 w), Cl_eq _ a1, if_pos (okF50 h1), if_pos (rg h1 1 (by rw [s1]) (by decide)), if_pos (F_a311 w1), g1, Cl_eq _ a2, e0_286, if_pos rfl]
theorem st_291 (c : CR h z) (rr : RR n h z) (b : BY z) (hn : n < 600) (e : Nat) {i : Int} (rg : ∀ (h' : Hp) (j : Int), h'.2.2.1 = h.2.2.1 → (1 ≤ j ∧ j ≤ 5) → 0 ≤ w32 (i + j) ∧ w32 (i + j) < len h' (-50)) : SQ 291 e i n h := by
  obtain ⟨h1, h2, a1, w1, g1, s1, a2, c2, r2, ng, s2⟩ := pairO (D := e + 199) c rr (OPc_rf c (kq_6 c (ld h (-50) (w32 (i + 1))) (ld h (-50) (w32 (i + 2))) (e + 198))) (fun h1 r1 => rk_176 r1 (ld h (-50) (w32 (i + 1))) (ld h (-50) (w32 (i + 2))) (e + 198))
  have w := c.w
  refine SQ_of ?_ c2 r2 b ⟨by omega, by omega⟩ ng s2
  rw [e0_291, if_pos (okF50 h), if_pos (rg h 1 rfl (by decide)), if_pos (okF50 h), if_pos (rg h 2 rfl (by decide)), if_pos (F_a1 w), Cl_eq _ a1, if_pos (okF50 h1), if_pos (rg h1 1 (by rw [s1]) (by decide)), e0_314, if_pos (okF50 h1), if_pos (rg h1 2 (by rw [s1]) (by decide)), if_pos (F_a311 w1), g1, g1, Cl_eq _ a2, if_pos rfl]
theorem st_396 (c : CR h z) (rr : RR n h z) (b : BY z) (hn : n < 600) (e : Nat) {i : Int} (rg : ∀ (h' : Hp) (j : Int), h'.2.2.1 = h.2.2.1 → (1 ≤ j ∧ j ≤ 5) → 0 ≤ w32 (i + j) ∧ w32 (i + j) < len h' (-50)) : SQ 396 e i n h := by
  obtain ⟨h1, h2, a1, w1, g1, s1, a2, c2, r2, ng, s2⟩ := pairO (D := e + 199) c rr (kq_8 c (ld h (-50) (w32 (i + 1))) (ld h (-50) (w32 (i + 2))) (e + 191)) (fun h1 r1 => rk_207 r1 (ld h (-50) (w32 (i + 1))) (ld h (-50) (w32 (i + 2))) (e + 191))
  have w := c.w
  refine SQ_of ?_ c2 r2 b ⟨by omega, by omega⟩ ng s2
  rw [e0_396, if_pos (okF50 h), if_pos (rg h 1 rfl (by decide)), if_pos (okF50 h), if_pos (rg h 2 rfl (by decide)), if_pos (F_a1 w), Cl_eq _ a1, if_pos (okF50 h1), if_pos (rg h1 1 (by rw [s1]) (by decide)), e0_419, if_pos (okF50 h1), if_pos (rg h1 2 (by rw [s1]) (by decide)), if_pos (F_a311 w1), g1, g1, Cl_eq _ a2, if_pos rfl]
theorem st_433 (c : CR h z) (rr : RR n h z) (b : BY z) (hn : n < 600) (e : Nat) {i : Int} (rg : ∀ (h' : Hp) (j : Int), h'.2.2.1 = h.2.2.1 → (1 ≤ j ∧ j ≤ 5) → 0 ≤ w32 (i + j) ∧ w32 (i + j) < len h' (-50)) : SQ 433 e i n h := by
  obtain ⟨h1, h2, a1, w1, g1, s1, a2, c2, r2, ng, s2⟩ := pairO (D := e + 199) c rr (kq_9 c (ld h (-50) (w32 (i + 1))) (ld h (-50) (w32 (i + 2))) (ld h (-50) (w32 (i + 3))) (e + 195)) (fun h1 r1 => rk_208 r1 (ld h (-50) (w32 (i + 1))) (ld h (-50) (w32 (i + 2))) (ld h (-50) (w32 (i + 3))) (e + 194))
  have w := c.w
  refine SQ_of ?_ c2 r2 b ⟨by omega, by omega⟩ ng s2
  rw [e0_433, if_pos (okF50 h), if_pos (rg h 1 rfl (by decide)), if_pos (okF50 h), if_pos (rg h 2 rfl (by decide)), if_pos (okF50 h), if_pos (rg h 3 rfl (by decide)), if_pos (F_a1 w), Cl_eq _ a1, e0_455, if_pos (okF50 h1), if_pos (rg h1 1 (by rw [s1]) (by decide)), if_pos (okF50 h1), if_pos (rg h1 2 (by rw [s1]) (by decide)), if_pos (okF50 h1), if_pos (rg h1 3 (by rw [s1]) (by decide)), if_pos (F_a311 w1), g1, g1, g1, Cl_eq _ a2, e0_477, if_pos (show lcm _ _ = 0 from by unfold lcm; rw [if_neg (by omega), if_pos rfl])]
theorem st_483 (c : CR h z) (rr : RR n h z) (b : BY z) (hn : n < 600) (e : Nat) {i : Int} (rg : ∀ (h' : Hp) (j : Int), h'.2.2.1 = h.2.2.1 → (1 ≤ j ∧ j ≤ 5) → 0 ≤ w32 (i + j) ∧ w32 (i + j) < len h' (-50)) : SQ 483 e i n h := by
  obtain ⟨h1, h2, a1, w1, g1, s1, a2, c2, r2, ng, s2⟩ := pairO (D := e + 199) c rr (kq_10 c (ld h (-50) (w32 (i + 1))) (e + 191)) (fun h1 r1 => rk_209 r1 (ld h (-50) (w32 (i + 1))) (e + 188))
  have w := c.w
  refine SQ_of ?_ c2 r2 (BY_tp b (tp_days _ z)) ⟨by omega, by omega⟩ ng s2
  rw [e0_483, if_pos (okF50 h), if_pos (rg h 1 rfl (by decide)), if_pos (F_a1 w), Cl_eq _ a1, if_pos (okF50 h1), if_pos (rg h1 1 (by rw [s1]) (by decide)), if_pos (F_a311 w1), g1, Cl_eq _ a2, e0_503, if_pos rfl]
theorem st_508 (c : CR h z) (rr : RR n h z) (b : BY z) (hn : n < 600) (e : Nat) {i : Int} (rg : ∀ (h' : Hp) (j : Int), h'.2.2.1 = h.2.2.1 → (1 ≤ j ∧ j ≤ 5) → 0 ≤ w32 (i + j) ∧ w32 (i + j) < len h' (-50)) : SQ 508 e i n h := by
  obtain ⟨h1, h2, a1, w1, g1, s1, a2, c2, r2, ng, s2⟩ := pairO (D := e + 199) c rr (OPc_rf c (kq_11 c (ld h (-50) (w32 (i + 1))) (ld h (-50) (w32 (i + 2))) (e + 199))) (fun h1 r1 => rk_210 r1 (ld h (-50) (w32 (i + 1))) (ld h (-50) (w32 (i + 2))) (e + 199))
  have w := c.w
  refine SQ_of ?_ c2 r2 b ⟨by omega, by omega⟩ ng s2
  rw [e0_508, if_pos (okF50 h), if_pos (rg h 1 rfl (by decide)), if_pos (okF50 h), if_pos (rg h 2 rfl (by decide)), if_pos (F_a1 w), Cl_eq _ a1, if_pos (okF50 h1), if_pos (rg h1 1 (by rw [s1]) (by decide)), e0_531, if_pos (okF50 h1), if_pos (rg h1 2 (by rw [s1]) (by decide)), if_pos (F_a311 w1), g1, g1, Cl_eq _ a2, if_pos rfl]
theorem st_545 (c : CR h z) (rr : RR n h z) (b : BY z) (hn : n < 600) (e : Nat) {i : Int} (rg : ∀ (h' : Hp) (j : Int), h'.2.2.1 = h.2.2.1 → (1 ≤ j ∧ j ≤ 5) → 0 ≤ w32 (i + j) ∧ w32 (i + j) < len h' (-50)) : SQ 545 e i n h := by
  obtain ⟨h1, h2, a1, w1, g1, s1, a2, c2, r2, ng, s2⟩ := pairO (D := e + 199) c rr (kq_14 c (ld h (-50) (w32 (i + 1))) (ld h (-50) (w32 (i + 2))) (e + 191)) (fun h1 r1 => rk_212 r1 (ld h (-50) (w32 (i + 1))) (ld h (-50) (w32 (i + 2))) c.dok.2 (e + 190))
  have w := c.w
  refine SQ_of ?_ c2 r2 b ⟨by omega, by omega⟩ ng s2
  rw [e0_545, if_pos (okF50 h), if_pos (rg h 1 rfl (by decide)), if_pos (okF50 h), if_pos (rg h 2 rfl (by decide)), if_pos (F_a1 w), Cl_eq _ a1, if_pos (okF50 h1), if_pos (rg h1 1 (by rw [s1]) (by decide)), e0_568, if_pos (okF50 h1), if_pos (rg h1 2 (by rw [s1]) (by decide)), if_pos (F_a311 w1), g1, g1, Cl_eq _ a2, if_pos rfl]
theorem st_582 (c : CR h z) (rr : RR n h z) (b : BY z) (hn : n < 600) (e : Nat) {i : Int} (rg : ∀ (h' : Hp) (j : Int), h'.2.2.1 = h.2.2.1 → (1 ≤ j ∧ j ≤ 5) → 0 ≤ w32 (i + j) ∧ w32 (i + j) < len h' (-50)) : SQ 582 e i n h := by
  obtain ⟨h1, h2, a1, w1, g1, s1, a2, c2, r2, ng, s2⟩ := pairO (D := e + 199) c rr (kq_15 c (ld h (-50) (w32 (i + 1))) (ld h (-50) (w32 (i + 2))) (e + 191)) (fun h1 r1 => rk_217 r1 (ld h (-50) (w32 (i + 1))) (ld h (-50) (w32 (i + 2))) (e + 191))
  have w := c.w
  refine SQ_of ?_ c2 r2 b ⟨by omega, by omega⟩ ng s2
  rw [e0_582, if_pos (okF50 h), if_pos (rg h 1 rfl (by decide)), if_pos (okF50 h), if_pos (rg h 2 rfl (by decide)), if_pos (F_a1 w), Cl_eq _ a1, if_pos (okF50 h1), if_pos (rg h1 1 (by rw [s1]) (by decide)), e0_605, if_pos (okF50 h1), if_pos (rg h1 2 (by rw [s1]) (by decide)), if_pos (F_a311 w1), g1, g1, Cl_eq _ a2, if_pos rfl]
theorem st_619 (c : CR h z) (rr : RR n h z) (b : BY z) (hn : n < 600) (e : Nat) {i : Int} (rg : ∀ (h' : Hp) (j : Int), h'.2.2.1 = h.2.2.1 → (1 ≤ j ∧ j ≤ 5) → 0 ≤ w32 (i + j) ∧ w32 (i + j) < len h' (-50)) : SQ 619 e i n h := by
  obtain ⟨h1, h2, a1, w1, g1, s1, a2, c2, r2, ng, s2⟩ := pairO (D := e + 199) c rr (kq_16 c (ld h (-50) (w32 (i + 1))) (e + 191)) (fun h1 r1 => rk_219 r1 (ld h (-50) (w32 (i + 1))) (e + 191))
  have w := c.w
  refine SQ_of ?_ c2 r2 (BY_tp b (tp_sell _ z)) ⟨by omega, by omega⟩ ng s2
  rw [e0_619, if_pos (okF50 h), if_pos (rg h 1 rfl (by decide)), if_pos (F_a1 w), Cl_eq _ a1, if_pos (okF50 h1), if_pos (rg h1 1 (by rw [s1]) (by decide)), if_pos (F_a311 w1), g1, Cl_eq _ a2, e0_639, if_pos rfl]
theorem st_644 (c : CR h z) (rr : RR n h z) (b : BY z) (hn : n < 600) (e : Nat) {i : Int} (rg : ∀ (h' : Hp) (j : Int), h'.2.2.1 = h.2.2.1 → (1 ≤ j ∧ j ≤ 5) → 0 ≤ w32 (i + j) ∧ w32 (i + j) < len h' (-50)) : SQ 644 e i n h := by
  obtain ⟨h1, h2, a1, w1, g1, s1, a2, c2, r2, ng, s2⟩ := pairO (D := e + 199) c rr (kq_18 c (ld h (-50) (w32 (i + 1))) (e + 195)) (fun h1 r1 => rk_220 r1 (ld h (-50) (w32 (i + 1))) (e + 196))
  have w := c.w
  refine SQ_of ?_ c2 r2 (BY_tp b (tp_dies _ z)) ⟨by omega, by omega⟩ ng s2
  rw [e0_644, if_pos (okF50 h), if_pos (rg h 1 rfl (by decide)), if_pos (F_a1 w), Cl_eq _ a1, if_pos (okF50 h1), if_pos (rg h1 1 (by rw [s1]) (by decide)), if_pos (F_a311 w1), g1, Cl_eq _ a2, e0_664, if_pos rfl]
theorem st_669 (c : CR h z) (rr : RR n h z) (b : BY z) (hn : n < 600) (e : Nat) {i : Int} (rg : ∀ (h' : Hp) (j : Int), h'.2.2.1 = h.2.2.1 → (1 ≤ j ∧ j ≤ 5) → 0 ≤ w32 (i + j) ∧ w32 (i + j) < len h' (-50)) : SQ 669 e i n h := by
  obtain ⟨h1, h2, a1, w1, g1, s1, a2, c2, r2, ng, s2⟩ := pairO (D := e + 199) c rr (kq_19 c (ld h (-50) (w32 (i + 1))) (e + 195)) (fun h1 r1 => rk_224 r1 (ld h (-50) (w32 (i + 1))) (e + 187))
  have w := c.w
  refine SQ_of ?_ c2 r2 b ⟨by omega, by omega⟩ ng s2
  rw [e0_669, if_pos (okF50 h), if_pos (rg h 1 rfl (by decide)), if_pos (F_a1 w), Cl_eq _ a1, if_pos (okF50 h1), if_pos (rg h1 1 (by rw [s1]) (by decide)), if_pos (F_a311 w1), g1, Cl_eq _ a2, e0_689, if_pos rfl]
theorem st_694 (c : CR h z) (rr : RR n h z) (b : BY z) (hn : n < 600) (e : Nat) {i : Int} (rg : ∀ (h' : Hp) (j : Int), h'.2.2.1 = h.2.2.1 → (1 ≤ j ∧ j ≤ 5) → 0 ≤ w32 (i + j) ∧ w32 (i + j) < len h' (-50)) : SQ 694 e i n h := by
  obtain ⟨h1, h2, a1, w1, g1, s1, a2, c2, r2, ng, s2⟩ := pairO (D := e + 199) c rr (kq_20 c (e + 191)) (fun h1 r1 => rk_225 r1 (e + 187))
  have w := c.w
  refine SQ_of ?_ c2 r2 (BY_tp b (tp_adopt z)) ⟨by omega, by omega⟩ ng s2
  rw [e0_694, if_pos (F_a1 w), Cl_eq _ a1, if_pos (F_a311 w1), Cl_eq _ a2, if_pos rfl]
theorem st_707 (c : CR h z) (rr : RR n h z) (b : BY z) (hn : n < 600) (e : Nat) {i : Int} (rg : ∀ (h' : Hp) (j : Int), h'.2.2.1 = h.2.2.1 → (1 ≤ j ∧ j ≤ 5) → 0 ≤ w32 (i + j) ∧ w32 (i + j) < len h' (-50)) : SQ 707 e i n h := by
  obtain ⟨h1, h2, a1, w1, g1, s1, a2, c2, r2, ng, s2⟩ := pairO (D := e + 199) c rr (kq_21 c (ld h (-50) (w32 (i + 1))) (e + 195)) (fun h1 r1 => rk_226 r1 (ld h (-50) (w32 (i + 1))) (e + 196))
  have w := c.w
  refine SQ_of ?_ c2 r2 (BY_tp b (tp_forge _ z)) ⟨by omega, by omega⟩ ng s2
  rw [e0_707, if_pos (okF50 h), if_pos (rg h 1 rfl (by decide)), if_pos (F_a1 w), Cl_eq _ a1, if_pos (okF50 h1), if_pos (rg h1 1 (by rw [s1]) (by decide)), if_pos (F_a311 w1), g1, Cl_eq _ a2, e0_727, if_pos rfl]
theorem st_732 (c : CR h z) (rr : RR n h z) (b : BY z) (hn : n < 600) (e : Nat) {i : Int} (rg : ∀ (h' : Hp) (j : Int), h'.2.2.1 = h.2.2.1 → (1 ≤ j ∧ j ≤ 5) → 0 ≤ w32 (i + j) ∧ w32 (i + j) < len h' (-50)) : SQ 732 e i n h := by
  obtain ⟨h1, h2, a1, w1, g1, s1, a2, c2, r2, ng, s2⟩ := pairO (D := e + 199) c rr (OPc_rf c (kq_23 c (ld h (-50) (w32 (i + 1))) (ld h (-50) (w32 (i + 2))) (e + 198))) (fun h1 r1 => rk_227 r1 (ld h (-50) (w32 (i + 1))) (ld h (-50) (w32 (i + 2))) (e + 198))
  have w := c.w
  refine SQ_of ?_ c2 r2 b ⟨by omega, by omega⟩ ng s2
  rw [e0_732, if_pos (okF50 h), if_pos (rg h 1 rfl (by decide)), if_pos (okF50 h), if_pos (rg h 2 rfl (by decide)), if_pos (F_a1 w), Cl_eq _ a1, if_pos (okF50 h1), if_pos (rg h1 1 (by rw [s1]) (by decide)), e0_755, if_pos (okF50 h1), if_pos (rg h1 2 (by rw [s1]) (by decide)), if_pos (F_a311 w1), g1, g1, Cl_eq _ a2, if_pos rfl]
theorem st_769 (c : CR h z) (rr : RR n h z) (b : BY z) (hn : n < 600) (e : Nat) {i : Int} (rg : ∀ (h' : Hp) (j : Int), h'.2.2.1 = h.2.2.1 → (1 ≤ j ∧ j ≤ 5) → 0 ≤ w32 (i + j) ∧ w32 (i + j) < len h' (-50)) : SQ 769 e i n h := by
  obtain ⟨h1, h2, a1, w1, g1, s1, a2, c2, r2, ng, s2⟩ := pairO (D := e + 199) c rr (kq_22 c (ld h (-50) (w32 (i + 1))) (ld h (-50) (w32 (i + 2))) (e + 195)) (fun h1 r1 => rk_228 r1 hn (ld h (-50) (w32 (i + 1))) (ld h (-50) (w32 (i + 2))) (e + 197))
  have w := c.w
  refine SQ_of ?_ c2 r2 (BY_tp b (tp_give _ _ z)) ⟨by omega, by omega⟩ ng s2
  rw [e0_769, if_pos (okF50 h), if_pos (rg h 1 rfl (by decide)), if_pos (okF50 h), if_pos (rg h 2 rfl (by decide)), if_pos (F_a1 w), Cl_eq _ a1, if_pos (okF50 h1), if_pos (rg h1 1 (by rw [s1]) (by decide)), e0_792, if_pos (okF50 h1), if_pos (rg h1 2 (by rw [s1]) (by decide)), if_pos (F_a311 w1), g1, g1, Cl_eq _ a2, if_pos rfl]
theorem st_859 (c : CR h z) (rr : RR n h z) (b : BY z) (hn : n < 600) (e : Nat) {i : Int} (rg : ∀ (h' : Hp) (j : Int), h'.2.2.1 = h.2.2.1 → (1 ≤ j ∧ j ≤ 5) → 0 ≤ w32 (i + j) ∧ w32 (i + j) < len h' (-50)) : SQ 859 e i n h := by
  obtain ⟨h1, h2, a1, w1, g1, s1, a2, c2, r2, ng, s2⟩ := pairO (D := e + 199) c rr (kq_26 c (ld h (-50) (w32 (i + 1))) (e + 198)) (fun h1 r1 => rk_230 r1 (ld h (-50) (w32 (i + 1))) (e + 199))
  have w := c.w
  refine SQ_of ?_ c2 r2 (BY_tp b (tp_strike _ z)) ⟨by omega, by omega⟩ ng s2
  rw [e0_859, if_pos (okF50 h), if_pos (rg h 1 rfl (by decide)), if_pos (F_a1 w), Cl_eq _ a1, if_pos (okF50 h1), if_pos (rg h1 1 (by rw [s1]) (by decide)), if_pos (F_a311 w1), g1, Cl_eq _ a2, e0_879, if_pos rfl]
theorem st_884 (c : CR h z) (rr : RR n h z) (b : BY z) (hn : n < 600) (e : Nat) {i : Int} (rg : ∀ (h' : Hp) (j : Int), h'.2.2.1 = h.2.2.1 → (1 ≤ j ∧ j ≤ 5) → 0 ≤ w32 (i + j) ∧ w32 (i + j) < len h' (-50)) : SQ 884 e i n h := by
  obtain ⟨h1, h2, a1, w1, g1, s1, a2, c2, r2, ng, s2⟩ := pairO (D := e + 199) c rr (kq_27 c (ld h (-50) (w32 (i + 1))) (e + 199)) (fun h1 r1 => rk_231 r1 (ld h (-50) (w32 (i + 1))) (e + 199))
  have w := c.w
  refine SQ_of ?_ c2 r2 (BY_tp b (tp_known _ z)) ⟨by omega, by omega⟩ ng s2
  rw [e0_884, if_pos (okF50 h), if_pos (rg h 1 rfl (by decide)), if_pos (F_a1 w), Cl_eq _ a1, if_pos (okF50 h1), if_pos (rg h1 1 (by rw [s1]) (by decide)), if_pos (F_a311 w1), g1, Cl_eq _ a2, e0_904, if_pos rfl]
theorem st_909 (c : CR h z) (rr : RR n h z) (b : BY z) (hn : n < 600) (e : Nat) {i : Int} (rg : ∀ (h' : Hp) (j : Int), h'.2.2.1 = h.2.2.1 → (1 ≤ j ∧ j ≤ 5) → 0 ≤ w32 (i + j) ∧ w32 (i + j) < len h' (-50)) : SQ 909 e i n h := by
  obtain ⟨h1, h2, a1, w1, g1, s1, a2, c2, r2, ng, s2⟩ := pairO (D := e + 199) c rr (kq_28 c (e + 195)) (fun h1 r1 => rk_233 r1 (e + 197))
  have w := c.w
  refine SQ_of ?_ c2 r2 b ⟨by omega, by omega⟩ ng s2
  rw [e0_909, if_pos (F_a1 w), Cl_eq _ a1, if_pos (F_a311 w1), Cl_eq _ a2, if_pos rfl]
theorem st_922 (c : CR h z) (rr : RR n h z) (b : BY z) (hn : n < 600) (e : Nat) {i : Int} (rg : ∀ (h' : Hp) (j : Int), h'.2.2.1 = h.2.2.1 → (1 ≤ j ∧ j ≤ 5) → 0 ≤ w32 (i + j) ∧ w32 (i + j) < len h' (-50)) : SQ 922 e i n h := by
  obtain ⟨h1, h2, a1, w1, g1, s1, a2, c2, r2, ng, s2⟩ := pairO (D := e + 199) c rr (OPc_rf c (kq_29 c (e + 199))) (fun h1 r1 => rk_234 r1 (e + 199))
  have w := c.w
  refine SQ_of ?_ c2 r2 b ⟨by omega, by omega⟩ ng s2
  rw [e0_922, if_pos (F_a1 w), Cl_eq _ a1, if_pos (F_a311 w1), Cl_eq _ a2, if_pos rfl]
theorem st_935 (c : CR h z) (rr : RR n h z) (b : BY z) (hn : n < 600) (e : Nat) {i : Int} (rg : ∀ (h' : Hp) (j : Int), h'.2.2.1 = h.2.2.1 → (1 ≤ j ∧ j ≤ 5) → 0 ≤ w32 (i + j) ∧ w32 (i + j) < len h' (-50)) : SQ 935 e i n h := by
  obtain ⟨h1, h2, a1, w1, g1, s1, a2, c2, r2, ng, s2⟩ := pairO (D := e + 199) c rr (kq_12 c (ld h (-50) (w32 (i + 1))) (ld h (-50) (w32 (i + 2))) (ld h (-50) (w32 (i + 3))) (e + 191)) (fun h1 r1 => rk_235 r1 (ld h (-50) (w32 (i + 1))) (ld h (-50) (w32 (i + 2))) (ld h (-50) (w32 (i + 3))) (e + 188))
  have w := c.w
  refine SQ_of ?_ c2 r2 b ⟨by omega, by omega⟩ ng s2
  rw [e0_935, if_pos (okF50 h), if_pos (rg h 1 rfl (by decide)), if_pos (okF50 h), if_pos (rg h 2 rfl (by decide)), if_pos (okF50 h), if_pos (rg h 3 rfl (by decide)), if_pos (F_a1 w), Cl_eq _ a1, e0_957, if_pos (okF50 h1), if_pos (rg h1 1 (by rw [s1]) (by decide)), if_pos (okF50 h1), if_pos (rg h1 2 (by rw [s1]) (by decide)), if_pos (okF50 h1), if_pos (rg h1 3 (by rw [s1]) (by decide)), if_pos (F_a311 w1), g1, g1, g1, Cl_eq _ a2, e0_979, if_pos rfl]
theorem st_984 (c : CR h z) (rr : RR n h z) (b : BY z) (hn : n < 600) (e : Nat) {i : Int} (rg : ∀ (h' : Hp) (j : Int), h'.2.2.1 = h.2.2.1 → (1 ≤ j ∧ j ≤ 5) → 0 ≤ w32 (i + j) ∧ w32 (i + j) < len h' (-50)) : SQ 984 e i n h := by
  obtain ⟨h1, h2, a1, w1, g1, s1, a2, c2, r2, ng, s2⟩ := pairO (D := e + 199) c rr (kq_24 c (e + 197)) (fun h1 r1 => rk_237 r1 (e + 197))
  have w := c.w
  refine SQ_of ?_ c2 r2 (BY_tp b (tp_undo z)) ⟨by omega, by omega⟩ ng s2
  rw [e0_984, if_pos (F_a1 w), Cl_eq _ a1, if_pos (F_a311 w1), Cl_eq _ a2, if_pos rfl]
theorem st_997 (c : CR h z) (rr : RR n h z) (b : BY z) (hn : n < 600) (e : Nat) {i : Int} (rg : ∀ (h' : Hp) (j : Int), h'.2.2.1 = h.2.2.1 → (1 ≤ j ∧ j ≤ 5) → 0 ≤ w32 (i + j) ∧ w32 (i + j) < len h' (-50)) : SQ 997 e i n h := by
  obtain ⟨h1, h2, a1, w1, g1, s1, a2, c2, r2, ng, s2⟩ := pairO (D := e + 199) c rr (kq_30 c (e + 197)) (fun h1 r1 => rk_238 r1 (e + 197))
  have w := c.w
  refine SQ_of ?_ c2 r2 (BY_tp b (rfl)) ⟨by omega, by omega⟩ ng s2
  rw [e0_997, if_pos (F_a1 w), Cl_eq _ a1, if_pos (F_a311 w1), Cl_eq _ a2, if_pos rfl]
theorem st_1010 (c : CR h z) (rr : RR n h z) (b : BY z) (hn : n < 600) (e : Nat) {i : Int} (rg : ∀ (h' : Hp) (j : Int), h'.2.2.1 = h.2.2.1 → (1 ≤ j ∧ j ≤ 5) → 0 ≤ w32 (i + j) ∧ w32 (i + j) < len h' (-50)) : SQ 1010 e i n h := by
  obtain ⟨h1, h2, a1, w1, g1, s1, a2, c2, r2, ng, s2⟩ := pairO (D := e + 199) c rr (kq_31 c (e + 197)) (fun h1 r1 => rk_239 r1 (e + 197))
  have w := c.w
  refine SQ_of ?_ c2 r2 (BY_tp b (tp_back z)) ⟨by omega, by omega⟩ ng s2
  rw [e0_1010, if_pos (F_a1 w), Cl_eq _ a1, if_pos (F_a311 w1), Cl_eq _ a2, if_pos rfl]
theorem st_1023 (c : CR h z) (rr : RR n h z) (b : BY z) (hn : n < 600) (e : Nat) {i : Int} (rg : ∀ (h' : Hp) (j : Int), h'.2.2.1 = h.2.2.1 → (1 ≤ j ∧ j ≤ 5) → 0 ≤ w32 (i + j) ∧ w32 (i + j) < len h' (-50)) : SQ 1023 e i n h := by
  obtain ⟨h1, h2, a1, w1, g1, s1, a2, c2, r2, ng, s2⟩ := pairO (D := e + 199) c rr (OPc_rf c (kq_32 c (ld h (-50) (w32 (i + 1))) (e + 195))) (fun h1 r1 => rk_240 r1 (ld h (-50) (w32 (i + 1))) (e + 197))
  have w := c.w
  refine SQ_of ?_ c2 r2 b ⟨by omega, by omega⟩ ng s2
  rw [e0_1023, if_pos (okF50 h), if_pos (rg h 1 rfl (by decide)), if_pos (F_a1 w), Cl_eq _ a1, if_pos (okF50 h1), if_pos (rg h1 1 (by rw [s1]) (by decide)), if_pos (F_a311 w1), g1, Cl_eq _ a2, e0_1043, if_pos rfl]
theorem st_168 (c : CR h z) (rr : RR n h z) (b : BY z) (hn : n < 600) (e : Nat) {i : Int} (rg : ∀ (h' : Hp) (j : Int), h'.2.2.1 = h.2.2.1 → (1 ≤ j ∧ j ≤ 5) → 0 ≤ w32 (i + j) ∧ w32 (i + j) < len h' (-50)) : SQ 168 e i n h := by
  obtain ⟨h1, h2, a1, w1, g1, s1, a2, c2, r2, ng, s2⟩ := pairO (D := e + 199) c rr (kq_2 c (ld h (-50) (w32 (i + 1))) (ld h (-50) (w32 (i + 2))) (ld h (-50) (w32 (i + 3))) (ld h (-50) (w32 (i + 4))) (ld h (-50) (w32 (i + 5))) (e + 189)) (fun h1 r1 => rk_137 r1 c.tnb.1 (ld h (-50) (w32 (i + 1))) (ld h (-50) (w32 (i + 2))) (ld h (-50) (w32 (i + 3))) (ld h (-50) (w32 (i + 4))) (ld h (-50) (w32 (i + 5))) (e + 199))
  have w := c.w
  refine SQ_of ?_ c2 r2 (BY_feed b _ _ _ _ _) ⟨by omega, by omega⟩ ng s2
  rw [e0_168, if_pos (okF50 h), if_pos (rg h 1 rfl (by decide)), if_pos (okF50 h), if_pos (rg h 2 rfl (by decide)), if_pos (okF50 h), if_pos (rg h 3 rfl (by decide)), if_pos (okF50 h), if_pos (rg h 4 rfl (by decide)), e0_193, if_pos (okF50 h), if_pos (rg h 5 rfl (by decide)), if_pos (F_a1 w), Cl_eq _ a1, if_pos (okF50 h1), if_pos (rg h1 1 (by rw [s1]) (by decide)), if_pos (okF50 h1), if_pos (rg h1 2 (by rw [s1]) (by decide)), e0_215, if_pos (okF50 h1), if_pos (rg h1 3 (by rw [s1]) (by decide)), if_pos (okF50 h1), if_pos (rg h1 4 (by rw [s1]) (by decide)), if_pos (okF50 h1), if_pos (rg h1 5 (by rw [s1]) (by decide)), if_pos (F_a311 w1), g1, g1, g1, g1, g1, Cl_eq _ a2, e0_236, if_pos rfl]
theorem st_806 (c : CR h z) (rr : RR n h z) (b : BY z) (hn : n < 600) (e : Nat) {i : Int} (rg : ∀ (h' : Hp) (j : Int), h'.2.2.1 = h.2.2.1 → (1 ≤ j ∧ j ≤ 5) → 0 ≤ w32 (i + j) ∧ w32 (i + j) < len h' (-50)) : SQ 806 e i n h := by
  have w := c.w
  have key : ∀ y : Int, (y = 0 ∨ y = 1) → y = (if ld h (-50) (w32 (i + 2)) = 0 then 0 else 1) → SQ 806 e i n h := fun y hy ey => by
    obtain ⟨h1, h2, a1, w1, g1, s1, a2, c2, r2, ng, s2⟩ := pairO (D := e + 199) c rr (kq_25 c (ld h (-50) (w32 (i + 1))) y (e + 198)) (fun h1 r1 => rk_229 r1 (ld h (-50) (w32 (i + 1))) y hy (e + 198))
    refine SQ_of ?_ c2 r2 (BY_tp b (tp_see _ _ z)) ⟨by omega, by omega⟩ ng s2
    have e1 : V (e + 200) 0 806 [(2, -50), (2, 1), (2, 311), (2, 356), (0, i), (9, 0), (9, 0)] [] h = V (e + 200) 0 827 [(2, -50), (2, 1), (2, 311), (2, 356), (0, i), (9, 0), (9, 0)] [(0, y), (0, ld h (-50) (w32 (i + 1))), (2, 1)] h := by
      rw [e0_806, if_pos (okF50 h), if_pos (rg h 1 rfl (by decide)), if_pos (okF50 h), if_pos (rg h 2 rfl (by decide)), ey]
      by_cases q : ld h (-50) (w32 (i + 2)) = 0
      · rw [if_pos q, if_pos q, e0_826]
      · rw [if_neg q, if_neg q]
    have e2 : (if ld h1 (-50) (w32 (i + 2)) = 0 then V (e + 200) 0 850 [(2, -50), (2, 1), (2, 311), (2, 356), (0, i), (9, 0), (9, 0)] [(0, ld h1 (-50) (w32 (i + 1))), (2, 311), (0, (zSee (ld h (-50) (w32 (i + 1))) y z).1)] h1 else V (e + 200) 0 846 [(2, -50), (2, 1), (2, 311), (2, 356), (0, i), (9, 0), (9, 0)] [(0, ld h1 (-50) (w32 (i + 1))), (2, 311), (0, (zSee (ld h (-50) (w32 (i + 1))) y z).1)] h1) = V (e + 200) 0 851 [(2, -50), (2, 1), (2, 311), (2, 356), (0, i), (9, 0), (9, 0)] [(0, y), (0, ld h (-50) (w32 (i + 1))), (2, 311), (0, (zSee (ld h (-50) (w32 (i + 1))) y z).1)] h1 := by
      rw [g1, g1, ey]
      by_cases q : ld h (-50) (w32 (i + 2)) = 0
      · rw [if_pos q, if_pos q, e0_850]
      · rw [if_neg q, if_neg q, e0_846]
    rw [e1, e0_827, if_pos (F_a1 w), Cl_eq _ a1, if_pos (okF50 h1), if_pos (rg h1 1 (by rw [s1]) (by decide)), if_pos (okF50 h1), if_pos (rg h1 2 (by rw [s1]) (by decide)), e2, e0_851, if_pos (F_a311 w1), Cl_eq _ a2, if_pos rfl]
  by_cases q : ld h (-50) (w32 (i + 2)) = 0
  · exact key 0 (Or.inl rfl) (by rw [if_pos q])
  · exact key 1 (Or.inr rfl) (by rw [if_neg q])
end SQs
