/-! the start: what the Statement gives of the constants, as KN wants it -/
def tokNm : List String := ["END", "NO_TOKEN", "WORD", "NUMBER", "SEMICOLON", "OPENING", "CLOSING", "LESS", "AT_MOST", "EQUAL", "UNEQUAL", "AT_LEAST", "GREATER", "PLUS", "MINUS", "TIMES", "OVER", "OR", "AND", "NOT", "FEATURE", "SITTER", "WANTS", "KIN", "TWIN", "HEIR", "HAIL", "LAW", "PRICE_KIND", "PICK_KIND", "BID_KIND", "BASE", "LEFT", "PURSE", "OWNED", "DAY", "TILL", "PAID"]
def NF : List Cond := flatC (Jvm.Cond.and given_1 narrow_1)
def ttm (k : Nat) : Term := .static "PaidFaces$Token" (tokNm.getD k "") "LPaidFaces$Token;"
def stm (i : Nat) : Term := .string (STRs.getD i ("", 0, "")).1 (STRs.getD i ("", 0, "")).2.1
def btm (i : Nat) : Term := .field (stm i) "java/lang/String" "value" "[B"
def atm : Term := .static "PaidFaces$Token" "ALL" "[LPaidFaces$Token;"
def wtm : Term := .static "PaidFaces$1" "$SwitchMap$PaidFaces$Token" "[I"
def TM (a : Int) : Term := if -38 ≤ a then ttm (-1 - a).toNat else if a = -50 then .arg 0 else if a = -40 then atm else if a = -41 then wtm else if -125 < a ∧ a ≤ -100 then stm (-100 - a).toNat else btm (-200 - a).toNat
def evR (args : Array Value) (s : State) (t : Term) : Nat := match t.eval args s none [] s with | some (.ref a) => a | _ => 0
theorem evR_of {args : Array Value} {s : State} {t : Term} {a : Nat} (h : t.eval args s none [] s = some (.ref a)) : t.eval args s none [] s = some (.ref (evR args s t)) := by
  unfold evR; rw [h]
theorem fnOf {α β : Type} {P : α → β → Prop} (h : ∀ a, ∃ b, P a b) : ∃ f : α → β, ∀ a, P a (f a) := ⟨fun a => (h a).choose, fun a => (h a).choose_spec⟩
def tokPos : List Nat := [4, 62, 57, 67, 72, 77, 82, 122, 112, 107, 117, 127, 132, 87, 92, 97, 102, 185, 190, 178, 195, 200, 205, 210, 215, 220, 225, 230, 235, 240, 245, 250, 255, 260, 265, 270, 275, 280]
def strPos : List Nat := [361, 379, 395, 505, 509, 516, 522, 529, 540, 550, 559, 566, 574, 582, 590, 597, 606, 614, 621, 629, 637, 646, 655, 662, 670]
def tokW (k : Nat) : List Cond := [.exactly (ttm k) "PaidFaces$Token", .eq (.field (ttm k) "java/lang/Enum" "ordinal" "I") (.int (i32 ((tokFd.getD k []).getD 3 0))), .eq (.field (ttm k) "PaidFaces$Token" "spelling" "Ljava/lang/String;") (stm (-100 - (tokFd.getD k []).getD 0 0).toNat), .eq (.field (ttm k) "PaidFaces$Token" "level" "I") (.int (i32 ((tokFd.getD k []).getD 1 0))), .eq (.field (ttm k) "PaidFaces$Token" "name" "I") (.int (i32 ((tokFd.getD k []).getD 2 0)))]
set_option maxRecDepth 10000 in
theorem tokW_eq : (List.range 38).all (fun k => decide (tokW k = (NF.drop (tokPos.getD k 0)).take 5)) = true := by decide +kernel
theorem tokW_in {k : Nat} (hk : k < 38) {w : Cond} (h : w ∈ tokW k) : w ∈ NF := by
  rw [of_decide_eq_true (List.all_eq_true.mp tokW_eq k (List.mem_range.mpr hk))] at h
  exact List.mem_of_mem_drop (List.mem_of_mem_take h)
theorem tokX : (List.range 38).all (fun k => (tokFd.getD k []).all (fun x => decide (-300 ≤ x ∧ x < 300)) && decide ((tokFd.getD k []).getD 3 0 = (k : Int)) && decide ((-100 - (tokFd.getD k []).getD 0 0).toNat < 25 ∧ -125 < (tokFd.getD k []).getD 0 0 ∧ (tokFd.getD k []).getD 0 0 ≤ -100)) = true := by decide +kernel
def strW (i : Nat) : List Cond := [.exactly (stm i) "java/lang/String", .eq (.field (stm i) "java/lang/String" "coder" "B") (.int 0), .arrayOf (btm i) .byte, .eq (.length (btm i)) (.int (Int32.ofNat (strLens.getD i 0)))] ++ (List.range (strLens.getD i 0)).map (fun j => .eq (.elem (btm i) (.int (Int32.ofNat j))) (.int (i32 ((strBy.getD i []).getD j 0))))
set_option maxRecDepth 10000 in
theorem strW_eq : (List.range 25).all (fun k => decide (strW k = (NF.drop (strPos.getD k 0)).take (strLens.getD k 0 + 4))) = true := by decide +kernel
theorem strW_in {k : Nat} (hk : k < 25) {w : Cond} (h : w ∈ strW k) : w ∈ NF := by
  rw [of_decide_eq_true (List.all_eq_true.mp strW_eq k (List.mem_range.mpr hk))] at h
  exact List.mem_of_mem_drop (List.mem_of_mem_take h)
theorem strX : strBy.all (fun l => l.all (fun x => decide (0 ≤ x ∧ x < 128))) = true ∧ (List.range 25).all (fun i => decide (strLens.getD i 0 < 200)) = true := by decide +kernel
def allW : List Cond := [.arrayOf atm (.object "PaidFaces$Token"), .eq (.length atm) (.int (Int32.ofNat 38))] ++ (List.range 38).map (fun j => .eq (.elem atm (.int (Int32.ofNat j))) (ttm j))
set_option maxRecDepth 10000 in
theorem allW_in : allW.all (fun w => decide (w ∈ NF)) = true := by decide +kernel
def swW : List Cond := [.arrayOf wtm .int, .eq (.length wtm) (.int (Int32.ofNat 38))] ++ (List.range 38).map (fun j => .eq (.elem wtm (.int (Int32.ofNat j))) (.int (i32 (swm.getD j 0))))
set_option maxRecDepth 10000 in
theorem swW_in : swW.all (fun w => decide (w ∈ NF)) = true := by decide +kernel
theorem swX : swm.all (fun x => decide (0 ≤ x ∧ x < 30)) = true := by decide +kernel
def othW : List Cond := [.eq (.static "java/lang/String" "COMPACT_STRINGS" "Z") (.int (i32 1)), .isRef (.static "jdk/internal/util/Preconditions" "SIOOBE_FORMATTER" "Ljava/util/function/BiFunction;"), .isRef (.static Bundle.tN "UNASSIGNED_STACK" Bundle.steD), .isRef (.static Bundle.tN "SUPPRESSED_SENTINEL" Bundle.listD), .not (.castable exN exI)]
theorem othW_in : othW.all (fun w => decide (w ∈ NF)) = true := by decide +kernel
set_option maxRecDepth 10000 in
theorem srW_in : SRl.all (fun r => decide (Cond.laysStatic r.1 r.2.1 r.2.2.1 ∈ lw_tbl) && decide (Cond.initialized r.1 ∈ lw_tbl)) = true := by decide +kernel
theorem srX : SRl.all (fun r => (decide (r.2.2.2.1 = 2) && decide (TM r.2.2.2.2 = .static r.1 r.2.1 r.2.2.1) && decide (r.2.2.2.2 < 0 ∧ (csh 0 r.2.2.2.2).isSome = true)) || decide (r = ("java/lang/String", "COMPACT_STRINGS", "Z", 0, 1)) || decide (r = ("jdk/internal/util/Preconditions", "SIOOBE_FORMATTER", "Ljava/util/function/BiFunction;", 8, 0))) = true := by decide +kernel
set_option maxRecDepth 10000 in
theorem strR_in : STRs.all (fun q => decide (Cond.stringRef q.1 q.2.1 q.2.2 ∈ lw_tbl)) = true := by decide +kernel
theorem STRs_len : STRs.length = 25 := by decide +kernel
set_option maxRecDepth 10000 in
theorem AC_4 : Cond.arrayClass .byte ∈ lw_tbl := tb_6 _ (List.mem_of_getElem? (i := 12) rfl)
set_option maxRecDepth 10000 in
theorem AO_8 : Cond.arrayOver (.array .int) ∈ lw_tbl := tb_1 _ (List.mem_of_getElem? (i := 83) rfl)
set_option maxRecDepth 10000 in
theorem AO_6 : Cond.arrayOver (.object "PaidFaces$Law") ∈ lw_tbl := tb_1 _ (List.mem_of_getElem? (i := 85) rfl)
set_option maxRecDepth 10000 in
theorem AO_5 : Cond.arrayOver (.object "PaidFaces$Token") ∈ lw_tbl := tb_1 _ (List.mem_of_getElem? (i := 92) rfl)
set_option maxRecDepth 10000 in
theorem AO_7 : Cond.arrayOver (.object "PaidFaces$State") ∈ lw_tbl := tb_2 _ (List.mem_of_getElem? (i := 81) rfl)
theorem exF_in : exF.all (fun w => decide (w ∈ lw_tbl)) = true := by decide +kernel
theorem thr_in : [Cond.laysStatic Bundle.tN "UNASSIGNED_STACK" Bundle.steD, Cond.laysStatic Bundle.tN "SUPPRESSED_SENTINEL" Bundle.listD, Cond.initialized Bundle.tN].all (fun w => decide (w ∈ lw_tbl)) = true := by decide +kernel
theorem csh_cases {L : Nat} {a : Int} {k n : Nat} (h : a < 0) (e : csh L a = some (k, n)) : (-38 ≤ a ∧ k = 32 ∧ n = 4) ∨ (a = -50 ∧ k = 0 ∧ n = L) ∨ (a = -40 ∧ k = 5 ∧ n = 38) ∨ (a = -41 ∧ k = 0 ∧ n = 38) ∨ (-125 < a ∧ a ≤ -100 ∧ k = 33 ∧ n = 2) ∨ (-225 < a ∧ a ≤ -200 ∧ k = 4 ∧ n = strLens.getD (-200 - a).toNat 0) := by
  unfold csh at e
  split at e
  · cases e; exact Or.inl ⟨by assumption, rfl, rfl⟩
  split at e
  · cases e; exact Or.inr (Or.inl ⟨by assumption, rfl, rfl⟩)
  split at e
  · cases e; exact Or.inr (Or.inr (Or.inl ⟨by assumption, rfl, rfl⟩))
  split at e
  · cases e; exact Or.inr (Or.inr (Or.inr (Or.inl ⟨by assumption, rfl, rfl⟩)))
  split at e
  · rename_i q; cases e; exact Or.inr (Or.inr (Or.inr (Or.inr (Or.inl ⟨q.1, q.2, rfl, rfl⟩))))
  split at e
  · rename_i q; cases e; exact Or.inr (Or.inr (Or.inr (Or.inr (Or.inr ⟨q.1, q.2, rfl, rfl⟩))))
  · cases e
section SS
variable {args : Array Value} {s : State}
theorem ev_eq {a b : Term} {v : Value} (h : (Cond.eq a b).before args s = true) (hb : b.eval args s none [] s = some v) : a.eval args s none [] s = some v := by
  obtain ⟨y, h1, h2⟩ := Cond.eq_one h
  rw [h2] at hb; cases hb; exact h1
theorem tok_ev (hF : ∀ w ∈ NF, w.before args s = true) {k : Nat} (hk : k < 38) : (ttm k).eval args s none [] s = some (.ref (evR args s (ttm k))) := by
  obtain ⟨a, c, cell, kk, h, -⟩ := Cond.exactly_spec (hF _ (tokW_in hk (by unfold tokW; exact List.mem_cons_self)))
  exact evR_of h
theorem str_ev (hF : ∀ w ∈ NF, w.before args s = true) {k : Nat} (hk : k < 25) : (stm k).eval args s none [] s = some (.ref (evR args s (stm k))) := by
  obtain ⟨a, c, cell, kk, h, -⟩ := Cond.exactly_spec (hF _ (strW_in hk (by unfold strW; exact List.mem_append_left _ List.mem_cons_self)))
  exact evR_of h
theorem TM_tok {a : Int} (h : -38 ≤ a) : TM a = ttm (-1 - a).toNat := if_pos h
theorem TM_str {a : Int} (h : -125 < a ∧ a ≤ -100) : TM a = stm (-100 - a).toNat := by
  unfold TM
  rw [if_neg (by omega), if_neg (by omega), if_neg (by omega), if_neg (by omega), if_pos h]
theorem TM_byt {a : Int} (h : -225 < a ∧ a ≤ -200) : TM a = btm (-200 - a).toNat := by
  unfold TM
  rw [if_neg (by omega), if_neg (by omega), if_neg (by omega), if_neg (by omega), if_neg (by omega)]
theorem tok_F {k : Nat} (hk : k < 38) : ((tokFd.getD k []).getD 3 0 = (k : Int)) ∧ ((-100 - (tokFd.getD k []).getD 0 0).toNat < 25 ∧ -125 < (tokFd.getD k []).getD 0 0 ∧ (tokFd.getD k []).getD 0 0 ≤ -100) ∧ ∀ j, -300 ≤ (tokFd.getD k []).getD j 0 ∧ (tokFd.getD k []).getD j 0 < 300 := by
  have h := List.all_eq_true.mp tokX k (List.mem_range.mpr hk)
  rw [Bool.and_eq_true, Bool.and_eq_true] at h
  refine ⟨of_decide_eq_true h.1.2, of_decide_eq_true h.2, fun j => ?_⟩
  by_cases hj : j < (tokFd.getD k []).length
  · rw [List.getD_eq_getElem?_getD, List.getElem?_eq_getElem hj]
    exact of_decide_eq_true (List.all_eq_true.mp h.1.1 _ (List.getElem_mem hj))
  · rw [List.getD_eq_getElem?_getD, List.getElem?_eq_none (by omega)]
    exact ⟨by decide, by decide⟩
/-- the numbers of the start -/
theorem g_start {xs : Nat → Int32} {b L : Nat} (hts : ∀ w ∈ lw_tbl, w.before #[Value.ref b] s = true) (hF : ∀ w ∈ NF, w.before #[Value.ref b] s = true) : ∃ g : GG, gN g = s.heap.size ∧ gL g = L ∧ gcm g = gcmC xs ∧ (gca g = fun a => evR #[Value.ref b] s (TM a)) ∧ va_K (gD g) CL (TYS g) s ∧
    (Term.static "jdk/internal/util/Preconditions" "SIOOBE_FORMATTER" "Ljava/util/function/BiFunction;").eval #[Value.ref b] s none [] s = some (va_rf (gfm g)) := by
  have h1 : ∀ c : Nat, ∃ z : ClassId × (Nat → Nat), ∀ q : vw_C, CL[c]? = some q → u_Kn s q.1 q.2.1 q.2.2 z.1 z.2 := by
    intro c
    by_cases hc : c < 12
    · obtain ⟨q, p1, p2, p3, p4, p5, ⟨p6, -⟩, -⟩ := CL_at (show 20 ≤ c + 20 by omega) (by omega)
      rw [Nat.add_sub_cancel] at p1
      obtain ⟨cC, iS, h⟩ := u_known (C := q.1) (T := q.2.1) (N := q.2.2) hts p4 (hts _ p6)
      exact ⟨(cC, iS), fun r hr => by rw [p1] at hr; cases hr; exact h⟩
    · exact ⟨(0, fun _ => 0), fun q hq => by rw [List.getElem?_eq_none (show CL.length ≤ c by have : CL.length = 12 := rfl; omega)] at hq; cases hq⟩
  obtain ⟨f, hf⟩ := fnOf h1
  have h2 : ∀ k : Nat, ∃ cA : ClassId, k < 9 → ArrOfT s cA (tyK k) ∧ va_RA s cA (tyK k) := by
    intro k
    by_cases hk : k < 9
    case neg => exact ⟨0, fun z => absurd z hk⟩
    have pr : ∀ ty : FieldType, Cond.arrayClass ty ∈ lw_tbl → (∀ cA, s.vm.findClass ("[" ++ ty.toString) = some cA → va_RA s cA ty) → ∃ cA : ClassId, ArrOfT s cA ty ∧ va_RA s cA ty := by
      intro ty hw hr
      obtain ⟨cA, kA, comp, e1, e2, e3⟩ := Cond.arrayClass_spec (hts _ hw)
      exact ⟨cA, fun n z => ⟨fun k h => (by cases h), kA, e2, comp, e3⟩, hr cA e1⟩
    have po : ∀ C : String, Cond.arrayOver (.object C) ∈ lw_tbl → ∃ cA : ClassId, ArrOfT s cA (.object C) ∧ va_RA s cA (.object C) := by
      intro C hw
      obtain ⟨comp, cA, kA, e1, -, e2, e3, e4⟩ := Cond.arrayOver_spec (hts _ hw)
      exact ⟨cA, fun n z => ⟨fun k h => (by cases h), kA, e2, comp, e3⟩, kA, comp, e2, e3, e1, e4⟩
    have h9 : k = 0 ∨ k = 1 ∨ k = 2 ∨ k = 3 ∨ k = 4 ∨ k = 5 ∨ k = 6 ∨ k = 7 ∨ k = 8 := by omega
    rcases h9 with rfl | rfl | rfl | rfl | rfl | rfl | rfl | rfl | rfl
    · obtain ⟨cA, h⟩ := pr .int AC_0 (fun _ h => h); exact ⟨cA, fun _ => h⟩
    · obtain ⟨cA, h⟩ := pr .long AC_1 (fun _ h => h); exact ⟨cA, fun _ => h⟩
    · obtain ⟨cA, h⟩ := pr .boolean AC_2 (fun _ h => h); exact ⟨cA, fun _ => h⟩
    · obtain ⟨cA, h⟩ := pr .char AC_3 (fun _ h => h); exact ⟨cA, fun _ => h⟩
    · obtain ⟨cA, h⟩ := pr .byte AC_4 (fun _ h => h); exact ⟨cA, fun _ => h⟩
    · obtain ⟨cA, h⟩ := po _ AO_5; exact ⟨cA, fun _ => h⟩
    · obtain ⟨cA, h⟩ := po _ AO_6; exact ⟨cA, fun _ => h⟩
    · obtain ⟨cA, h⟩ := po _ AO_7; exact ⟨cA, fun _ => h⟩
    · obtain ⟨comp, cA, kA, e1, e2, e3, e4⟩ := Cond.arrayOver_specA (hts _ AO_8)
      exact ⟨cA, fun _ => ⟨fun n z => ⟨fun k h => (by cases h), kA, e2, comp, e3⟩, e4⟩⟩
  obtain ⟨ty, hty⟩ := fnOf h2
  obtain ⟨v, hv1, hv2⟩ := Cond.isRef_spec (hF (.isRef (.static "jdk/internal/util/Preconditions" "SIOOBE_FORMATTER" "Ljava/util/function/BiFunction;")) (of_decide_eq_true (List.all_eq_true.mp othW_in _ (by decide))))
  obtain ⟨fm, hfm⟩ : ∃ fm : Option Nat, v = va_rf fm := by
    cases v <;> first | exact ⟨none, rfl⟩ | exact ⟨some _, rfl⟩ | cases hv2
  refine ⟨(s.heap.size, (fun a => evR #[Value.ref b] s (TM a)), gcmC xs, L, (fun c => (f c).1, fun c => (f c).2), ty, fm), rfl, rfl, rfl, rfl, ⟨fun c q hq => hf c q hq, fun k q hq => ?_⟩, by rw [hv1, hfm]; rfl⟩
  unfold TYS at hq
  rw [List.getElem?_map] at hq
  by_cases hk : k < 9
  · rw [List.getElem?_range hk] at hq
    cases hq
    exact hty k hk
  · rw [List.getElem?_eq_none (by rw [List.length_range]; omega)] at hq
    cases hq
end SS
