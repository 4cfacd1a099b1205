/-! one instruction: what the small machine does, the machine does -/
def EXS : Nat := 16
def cnt (h : Hp) : Nat := h.2.1.length + h.2.2.2
def ssum (h : Hp) : Nat := (h.2.1.map Prod.snd).sum + h.2.2.2 * EXS
def iln : Instr → Nat
  | .aload _ => 2 | .iload _ => 2 | .lload _ => 2 | .istore _ => 2 | .astore _ => 2 | .lstore _ => 2 | .iinc _ _ => 3 | .bipush _ => 2 | .sipush _ => 3 | .ldc _ => 2 | .ldc2_w _ => 3
  | .goto _ => 3 | .ifCond _ _ => 3 | .if_icmp _ _ => 3 | .if_acmp _ _ => 3 | .ifnull _ => 3 | .ifnonnull _ => 3 | .getstatic _ => 3 | .getfield _ => 3 | .putfield _ => 3 | .new _ => 3 | .newarray _ => 2 | .anewarray _ => 3 | .multianewarray _ _ => 4
  | .invokespecial _ => 3 | .invokevirtual _ => 3 | .invokestatic _ => 3 | _ => 1
def isSw : Instr → Bool
  | .tableswitch _ _ _ _ => true | .lookupswitch _ _ => true | _ => false
def tsk (pc : Nat) (lo : Int) : Nat → List Int → List Int
  | _, [] => []
  | i, f :: r => (lo + i) :: ((pc : Int) + f) :: tsk pc lo (i + 1) r
def lsk (pc : Nat) : List (Int × Int) → List Int
  | [] => []
  | (k, f) :: r => k :: ((pc : Int) + f) :: lsk pc r
def fld0 (o ix : Nat) (c k t z : Int) : Bool := FL.any (fun r => r.1 == o && r.2.1 == ix && r.2.2.1 == c.toNat && decide ((r.2.2.2.1 : Int) = k) && r.2.2.2.2.1 == t.toNat && decide ((r.2.2.2.2.2.1 : Int) = z) && decide (0 ≤ t))
/-- an entry of the code tables agrees with the tables of links -/
def okE (y pc : Nat) (e : ME) : Bool :=
  (isSw e.1 || e.2.1 == iln e.1) && match e.1, e.2.2.2 with
  | .goto f, [t] => decide ((pc : Int) + f = t ∧ 0 ≤ t)
  | .ifCond _ f, [t] => decide ((pc : Int) + f = t ∧ 0 ≤ t)
  | .if_icmp _ f, [t] => decide ((pc : Int) + f = t ∧ 0 ≤ t)
  | .if_acmp _ f, [t] => decide ((pc : Int) + f = t ∧ 0 ≤ t)
  | .ifnull f, [t] => decide ((pc : Int) + f = t ∧ 0 ≤ t)
  | .ifnonnull f, [t] => decide ((pc : Int) + f = t ∧ 0 ≤ t)
  | .tableswitch d lo hi fs, t :: ks => decide ((pc : Int) + d = t ∧ 0 ≤ t ∧ ks = tsk pc lo 0 fs.toList ∧ hi = lo + fs.size - 1 ∧ lo ≤ hi) && fs.toList.all (fun f => decide (0 ≤ (pc : Int) + f))
  | .lookupswitch d ps, t :: ks => decide ((pc : Int) + d = t ∧ 0 ≤ t ∧ ks = lsk pc ps.toList ∧ (ps.toList.zip (ps.toList.drop 1)).all (fun (a, next) => a.1 < next.1) = true) && ps.toList.all (fun f => decide (0 ≤ (pc : Int) + f.2))
  | .iconst n, _ => decide (-1 ≤ n ∧ n ≤ 5)
  | .bipush n, _ => decide (-128 ≤ n ∧ n < 128)
  | .sipush n, _ => decide (-32768 ≤ n ∧ n < 32768)
  | .ldc i, [t, v] => decide (t = 0 ∧ (yO y, i, v) ∈ KI) || decide (t = 2 ∧ (yO y, i, v) ∈ SG)
  | .ldc2_w i, [v] => decide ((yO y, i, v) ∈ KL)
  | .getstatic i, [t, v] => ST.any (fun r => r.1 == yO y && r.2.1 == i && r.2.2.1 == t.toNat && decide (r.2.2.2.1 = v) && decide (0 ≤ t) && decide (t ≤ 8) && (decide (t = 0 ∧ -2147483648 ≤ v ∧ v < 2147483648) || decide (t = 2 ∨ t = 8)))
  | .getfield i, [c, k, t] => (fld0 (yO y) i c k t 0 || fld0 (yO y) i c k t 1) && decide (20 ≤ c)
  | .putfield i, [c, k, t, z] => fld0 (yO y) i c k t z && decide (20 ≤ c ∧ c < 32) && (!(fI c.toNat k.toNat).2.2.2 || (decide ((yN y).name = "<init>") && decide (cnm c.toNat = CN (yO y)) && FL.all (fun r => !(r.1 == yO y && r.2.1 == i) || r.2.2.2.2.2.2 == 0)))
  | .new i, [c, n] => decide ((yO y, i, c.toNat) ∈ NW ∧ 0 ≤ c ∧ n = nfl c.toNat)
  | .newarray t, _ => decide (atk t < 4)
  | .anewarray i, [k] => decide ((yO y, i, k.toNat) ∈ AN)
  | .multianewarray i d, _ => decide ((yO y, i, 0) ∈ MU ∧ d = 2)
  | .arraylength, [k] => decide (0 ≤ k ∧ k < 9)
  | .baload, [k] => decide (k = 2 ∨ k = 4)
  | .aaload, [k] => decide (5 ≤ k ∧ k < 9)
  | .aastore, [k, c] => decide ((k = 5 ∧ c = 32) ∨ (k = 6 ∧ c = 22) ∨ (k = 7 ∧ c = 29))
  | .ireturn, [t] => decide ((t = 0 ∧ yR y = some .int) ∨ (t = 1 ∧ yR y = some .boolean) ∨ (t = 2 ∧ yR y = some .char) ∨ (t = 3 ∧ yR y = some .byte))
  | .lreturn, _ => decide (yR y = some .long)
  | .areturn, _ => false
  | .return_, _ => decide (yR y = none)
  | .invokespecial i, [] => decide ((yO y, i, 0) ∈ OBl)
  | .invokespecial i, [z, n, q] => decide (q = 9) && CA.any (fun r => r.1 == yO y && r.2.1 == i && r.2.2.1 == z.toNat && r.2.2.2.1 == 2 && decide ((r.2.2.2.2.2 : Int) + 1 = n))
  | .invokestatic i, [] => decide ((yO y, i, 0) ∈ CP)
  | .invokestatic i, [z, n, _] => CA.any (fun r => r.1 == yO y && r.2.1 == i && r.2.2.1 == z.toNat && r.2.2.2.1 == 0 && decide ((r.2.2.2.2.2 : Int) = n)) || decide ((yO y, i, z.toNat) ∈ MA ∧ ((z = 242 ∧ n = 1) ∨ ((z = 243 ∨ z = 244 ∨ z = 245 ∨ z = 246) ∧ n = 2))) || decide (z = 254 ∨ z = 9999)
  | .invokevirtual i, [z, n, _, c] => (decide (20 ≤ c ∧ cnm c.toNat = (yN z.toNat).cls) && CA.any (fun r => r.1 == yO y && r.2.1 == i && r.2.2.1 == z.toNat && r.2.2.2.1 == 1 && decide ((r.2.2.2.2.2 : Int) + 1 = n))) || decide ((yO y, i, 0) ∈ OR ∧ z = 241 ∧ n = 1 ∧ c = 32)
  | _, _ => true
def Ctx (p : Program) (l : Launch) (s : State) (m : MethodId) (args : Array Value) (meth : Method) (c : Code) (g : GG) (y : Nat) : Prop :=
  p.tables.exec = Jvm.exec ∧ c.code = yB y ∧ c.maxLocals = nlo y ∧ s.vm.findClass (CN (yO y)) = some m.cls ∧ (∀ w ∈ lw_tbl, goodWord w = true → w.before args s = true) ∧ KN g s s.heap ∧ meth.sig.returnType = yR y ∧ ((yN y).name = "<init>" → meth.name = "<init>") ∧ meth.locks = false ∧ gN g ≤ s.heap.size
def G2 (p : Program) (l : Launch) (e : Env) (R : Room) (s : State) (m : MethodId) (args : Array Value) (below : List Frame) (meth : Method) (c : Code) (Q : State → Prop) (g : GG) (y c0 s0 pc : Nat) (ls st : List MV) (h : Hp) : Prop :=
  ∀ (lsR : Array Slot) (H : Heap) (locs : List Loc), RSl g h H → lrel g (nlo y) ls lsR → (∀ v ∈ st, vok v) → va_S (gA g) s.heap H locs → c0 ≤ cnt h → s0 ≤ ssum h → W p l e R s m args below meth c H locs (cnt h - c0) (ssum h - s0) Q (F0 m pc lsR (st.map (cv g)))
theorem vok0 {x : Int} (h : InR x) : vok (0, x) := ⟨fun _ => h, fun z => absurd (show (0 : Nat) = 1 from z) (by decide), Or.inl rfl⟩
theorem vok1 {x : Int} (h : InL x) : vok (1, x) := ⟨fun z => absurd (show (1 : Nat) = 0 from z) (by decide), fun _ => h, Or.inr (Or.inl rfl)⟩
theorem vok2 {x : Int} : vok (2, x) := ⟨fun z => absurd (show (2 : Nat) = 0 from z) (by decide), fun z => absurd (show (2 : Nat) = 1 from z) (by decide), Or.inr (Or.inr (Or.inl rfl))⟩
theorem vtl {v : MV} {r : List MV} (h : ∀ w ∈ v :: r, vok w) : ∀ w ∈ r, vok w := fun w hw => h w (List.mem_cons_of_mem _ hw)
theorem vhd {v : MV} {r : List MV} (h : ∀ w ∈ v :: r, vok w) : vok v := h v List.mem_cons_self
theorem vcs {v : MV} {r : List MV} (h : vok v) (hr : ∀ w ∈ r, vok w) : ∀ w ∈ v :: r, vok w := fun w hw => (List.mem_cons.mp hw).elim (fun e => by rw [e]; exact h) (hr w)
theorem in0 {x : Int} {r : List MV} (h : ∀ w ∈ (0, x) :: r, vok w) : InR x := (vhd h).1 rfl
theorem in1 {x : Int} {r : List MV} (h : ∀ w ∈ (1, x) :: r, vok w) : InL x := (vhd h).2.1 rfl
theorem lrel_get {g : GG} {n : Nat} {ls : List MV} {lsR : Array Slot} (h : lrel g n ls lsR) {i t : Nat} {x : Int} (hi : ls[i]? = some (t, x)) (ht : t < 3) : lsR[i]? = some (.val (fval g t x)) ∧ vok (t, x) :=
  ⟨h.1.2.2 (i, cv g (t, x)) ((pic_mem g).mpr ⟨(t, x), hi, ht, rfl⟩), h.2.2 i _ hi ht⟩
theorem cv_cat (g : GG) {v : MV} (h : v.1 = 1) : (cv g v).category = 2 := by
  obtain ⟨t, x⟩ := v; cases h; rfl
theorem rf_cat (r : Option Nat) : (va_rf r).category = 1 := by cases r <;> rfl
theorem cv_cat1 (g : GG) {v : MV} (h : v.1 ≠ 1) : (cv g v).category = 1 := by
  obtain ⟨t, x⟩ := v
  unfold cv fval
  split
  · rfl
  · rename_i q; exact absurd q h
  · exact rf_cat _
  · exact rf_cat _
theorem okS_succ (ls : List MV) (j : Nat) : okS ls (j + 1) = (match ls[j]? with | some (1, _) => false | _ => true) := rfl
/-- a store of one place -/
theorem lrel_set1 {g : GG} {n i : Nat} {ls : List MV} {lsR lsR' : Array Slot} {v : MV} (h : lrel g n ls lsR) (hok : okS ls i = true) (hi : i < ls.length) (hv : vok v) (hv1 : v.1 ≠ 1)
    (h' : lv_has lsR' n ((i, cv g v) :: (pic g ls).filter (fun q => !(q.1 == i) && !(q.1 + 1 == i && q.2.category == 2)))) : lrel g n (ls.set i v) lsR' := by
  refine ⟨⟨h'.1, h'.2.1, fun q hq => h'.2.2 q ?_⟩, by rw [List.length_set]; exact h.2.1, fun j w hj hw => ?_⟩
  · obtain ⟨w, h1, h2, h3⟩ := (pic_mem g).mp hq
    by_cases hqi : q.1 = i
    · rw [hqi, List.getElem?_set_self hi] at h1
      cases h1
      exact List.mem_cons.mpr (Or.inl (Prod.ext hqi h3))
    · rw [List.getElem?_set_ne (Ne.symm hqi)] at h1
      refine List.mem_cons.mpr (Or.inr (List.mem_filter.mpr ⟨(pic_mem g).mpr ⟨w, h1, h2, h3⟩, ?_⟩))
      have h4 : ¬ (q.1 + 1 = i ∧ q.2.category = 2) := by
        rintro ⟨e1, e2⟩
        have hw1 : w.1 = 1 := by
          by_cases z : w.1 = 1
          · exact z
          · rw [h3, cv_cat1 g z] at e2; cases e2
        subst e1
        rw [okS_succ] at hok
        rw [h1] at hok
        obtain ⟨t, x⟩ := w
        have hw1 : t = 1 := hw1
        subst hw1
        cases hok
      simp only [Bool.and_eq_true, Bool.not_eq_true', beq_eq_false_iff_ne, ne_eq, Bool.and_eq_false_iff]
      refine ⟨hqi, ?_⟩
      by_cases e1 : q.1 + 1 = i
      · exact Or.inr (fun e2 => h4 ⟨e1, e2⟩)
      · exact Or.inl e1
  · by_cases hji : j = i
    · subst hji
      rw [List.getElem?_set_self hi] at hj
      cases hj; exact hv
    · rw [List.getElem?_set_ne (Ne.symm hji)] at hj
      exact h.2.2 j w hj hw
/-- a store of two places -/
theorem lrel_set2 {g : GG} {n i : Nat} {ls : List MV} {lsR lsR' : Array Slot} {x : Int} (h : lrel g n ls lsR) (hok : okS ls i = true) (hi : i + 1 < ls.length) (hv : InL x)
    (h' : lv_has lsR' n ((i, cv g (1, x)) :: (pic g ls).filter (fun q => !(q.1 == i) && (!(q.1 == i + 1) && !(q.1 + 1 == i && q.2.category == 2))))) : lrel g n ((ls.set i (1, x)).set (i + 1) (9, 0)) lsR' := by
  have hi1 : i + 1 < (ls.set i (1, x)).length := by rw [List.length_set]; exact hi
  refine ⟨⟨h'.1, h'.2.1, fun q hq => h'.2.2 q ?_⟩, by rw [List.length_set, List.length_set]; exact h.2.1, fun j w hj hw => ?_⟩
  · obtain ⟨w, h1, h2, h3⟩ := (pic_mem g).mp hq
    by_cases hq1 : q.1 = i + 1
    · rw [hq1, List.getElem?_set_self hi1] at h1
      cases h1
      exact absurd h2 (by decide)
    · rw [List.getElem?_set_ne (Ne.symm hq1)] at h1
      by_cases hqi : q.1 = i
      · rw [hqi, List.getElem?_set_self (by omega)] at h1
        cases h1
        exact List.mem_cons.mpr (Or.inl (Prod.ext hqi h3))
      · rw [List.getElem?_set_ne (Ne.symm hqi)] at h1
        refine List.mem_cons.mpr (Or.inr (List.mem_filter.mpr ⟨(pic_mem g).mpr ⟨w, h1, h2, h3⟩, ?_⟩))
        have h4 : ¬ (q.1 + 1 = i ∧ q.2.category = 2) := by
          rintro ⟨e1, e2⟩
          have hw1 : w.1 = 1 := by
            by_cases z : w.1 = 1
            · exact z
            · rw [h3, cv_cat1 g z] at e2; cases e2
          subst e1
          rw [okS_succ] at hok
          rw [h1] at hok
          obtain ⟨t, y⟩ := w
          have hw1 : t = 1 := hw1
          subst hw1
          cases hok
        simp only [Bool.and_eq_true, Bool.not_eq_true', beq_eq_false_iff_ne, ne_eq, Bool.and_eq_false_iff]
        refine ⟨hqi, hq1, ?_⟩
        by_cases e1 : q.1 + 1 = i
        · exact Or.inr (fun e2 => h4 ⟨e1, e2⟩)
        · exact Or.inl e1
  · by_cases hj1 : j = i + 1
    · subst hj1
      rw [List.getElem?_set_self hi1] at hj
      cases hj; exact absurd hw (by decide)
    · rw [List.getElem?_set_ne (Ne.symm hj1)] at hj
      by_cases hji : j = i
      · subst hji
        rw [List.getElem?_set_self (by omega)] at hj
        cases hj; exact vok1 hv
      · rw [List.getElem?_set_ne (Ne.symm hji)] at hj
        exact h.2.2 j w hj hw
theorem tnn {t : Int} {pc : Nat} {f : Int} (h : (pc : Int) + f = t ∧ 0 ≤ t) : (pc : Int) + f = (t.toNat : Int) := by omega

