theorem AC_0 : Cond.arrayClass .int ∈ lw_tbl := (tb_1 _ (List.mem_of_getElem? (i := 109) rfl))
theorem AC_1 : Cond.arrayClass .long ∈ lw_tbl := (tb_1 _ (List.mem_of_getElem? (i := 111) rfl))
theorem AC_2 : Cond.arrayClass .boolean ∈ lw_tbl := (tb_1 _ (List.mem_of_getElem? (i := 110) rfl))
theorem AC_3 : Cond.arrayClass .char ∈ lw_tbl := (tb_1 _ (List.mem_of_getElem? (i := 75) rfl))
set_option maxRecDepth 10000 in
theorem w_oi : Cond.instanceMethod Lib.objectInit ∈ lw_tbl := (tb_1 _ (List.mem_of_getElem? (i := 33) rfl))
set_option maxRecDepth 10000 in
theorem w_oc : Cond.code Lib.objectInit ⟨#[0xb1]⟩ 1 none ∈ lw_tbl := (tb_1 _ (List.mem_of_getElem? (i := 34) rfl))
set_option maxRecDepth 10000 in
theorem w_an : Cond.native arraycopyName ∈ lw_tbl := (tb_4 _ (List.mem_of_getElem? (i := 234) rfl))
set_option maxRecDepth 10000 in
theorem w_as : Cond.static arraycopyName ∈ lw_tbl := (tb_4 _ (List.mem_of_getElem? (i := 233) rfl))
set_option maxRecDepth 10000 in
theorem w_ai : Cond.initialized "java/lang/System" ∈ lw_tbl := (tb_1 _ (List.mem_of_getElem? (i := 26) rfl))
def OBP (r : Nat × Nat × Nat) : Prop := Cond.methodLink (CN r.1) r.2.1 Lib.objectInit ∈ lw_tbl
set_option maxRecDepth 10000 in
theorem ob_0 : OBP (1, 3, 0) := (tb_1 _ (List.mem_of_getElem? (i := 32) rfl))
set_option maxRecDepth 10000 in
theorem ob_1 : OBP (2, 3, 0) := (tb_1 _ (List.mem_of_getElem? (i := 40) rfl))
set_option maxRecDepth 10000 in
theorem ob_2 : OBP (3, 1, 0) := (tb_1 _ (List.mem_of_getElem? (i := 46) rfl))
set_option maxRecDepth 10000 in
theorem ob_3 : OBP (4, 3, 0) := (tb_1 _ (List.mem_of_getElem? (i := 81) rfl))
set_option maxRecDepth 10000 in
theorem ob_4 : OBP (5, 3, 0) := (tb_1 _ (List.mem_of_getElem? (i := 90) rfl))
set_option maxRecDepth 10000 in
theorem ob_5 : OBP (6, 3, 0) := (tb_2 _ (List.mem_of_getElem? (i := 11) rfl))
set_option maxRecDepth 10000 in
theorem ob_6 : OBP (7, 3, 0) := (tb_2 _ (List.mem_of_getElem? (i := 99) rfl))
set_option maxRecDepth 10000 in
theorem ob_7 : OBP (8, 3, 0) := (tb_2 _ (List.mem_of_getElem? (i := 140) rfl))
set_option maxRecDepth 10000 in
theorem ob_8 : OBP (9, 3, 0) := (tb_2 _ (List.mem_of_getElem? (i := 162) rfl))
set_option maxRecDepth 10000 in
theorem ob_9 : OBP (10, 3, 0) := (tb_2 _ (List.mem_of_getElem? (i := 184) rfl))
set_option maxRecDepth 10000 in
theorem ob_10 : OBP (11, 3, 0) := (tb_2 _ (List.mem_of_getElem? (i := 79) rfl))
set_option maxRecDepth 10000 in
theorem ob_11 : OBP (12, 1, 0) := (tb_6 _ (List.mem_of_getElem? (i := 35) rfl))
def OBl : List (Nat × Nat × Nat) := [(1, 3, 0), (2, 3, 0), (3, 1, 0), (4, 3, 0), (5, 3, 0), (6, 3, 0), (7, 3, 0), (8, 3, 0), (9, 3, 0), (10, 3, 0), (11, 3, 0), (12, 1, 0)]
set_option maxRecDepth 10000 in
theorem OB_ok : ∀ r ∈ OBl, OBP r := List.forall_mem_cons.mpr ⟨ob_0, List.forall_mem_cons.mpr ⟨ob_1, List.forall_mem_cons.mpr ⟨ob_2, List.forall_mem_cons.mpr ⟨ob_3, List.forall_mem_cons.mpr ⟨ob_4, List.forall_mem_cons.mpr ⟨ob_5, List.forall_mem_cons.mpr ⟨ob_6, List.forall_mem_cons.mpr ⟨ob_7, List.forall_mem_cons.mpr ⟨ob_8, List.forall_mem_cons.mpr ⟨ob_9, List.forall_mem_cons.mpr ⟨ob_10, List.forall_mem_cons.mpr ⟨ob_11, fun _ h => absurd h List.not_mem_nil⟩⟩⟩⟩⟩⟩⟩⟩⟩⟩⟩⟩
def CPP (r : Nat × Nat × Nat) : Prop := Cond.methodLink (CN r.1) r.2.1 arraycopyName ∈ lw_tbl
set_option maxRecDepth 10000 in
theorem cp_0 : CPP (6, 62, 0) := (tb_4 _ (List.mem_of_getElem? (i := 232) rfl))
def CP : List (Nat × Nat × Nat) := [(6, 62, 0)]
set_option maxRecDepth 10000 in
theorem CP_ok : ∀ r ∈ CP, CPP r := List.forall_mem_cons.mpr ⟨cp_0, fun _ h => absurd h List.not_mem_nil⟩
def MAP (r : Nat × Nat × Nat) : Prop := Cond.methodLink (CN r.1) r.2.1 (yN r.2.2) ∈ lw_tbl
set_option maxRecDepth 10000 in
theorem ma_0 : MAP (2, 234, 243) := (tb_4 _ (List.mem_of_getElem? (i := 49) rfl))
set_option maxRecDepth 10000 in
theorem ma_1 : MAP (3, 22, 245) := (tb_3 _ (List.mem_of_getElem? (i := 36) rfl))
set_option maxRecDepth 10000 in
theorem ma_2 : MAP (3, 28, 243) := (tb_3 _ (List.mem_of_getElem? (i := 39) rfl))
set_option maxRecDepth 10000 in
theorem ma_3 : MAP (6, 102, 246) := (tb_4 _ (List.mem_of_getElem? (i := 121) rfl))
set_option maxRecDepth 10000 in
theorem ma_4 : MAP (6, 108, 244) := (tb_4 _ (List.mem_of_getElem? (i := 124) rfl))
set_option maxRecDepth 10000 in
theorem ma_5 : MAP (6, 132, 243) := (tb_4 _ (List.mem_of_getElem? (i := 106) rfl))
set_option maxRecDepth 10000 in
theorem ma_6 : MAP (7, 84, 245) := (tb_4 _ (List.mem_of_getElem? (i := 174) rfl))
set_option maxRecDepth 10000 in
theorem ma_7 : MAP (7, 149, 246) := (tb_5 _ (List.mem_of_getElem? (i := 8) rfl))
set_option maxRecDepth 10000 in
theorem ma_8 : MAP (7, 152, 244) := (tb_5 _ (List.mem_of_getElem? (i := 9) rfl))
set_option maxRecDepth 10000 in
theorem ma_9 : MAP (9, 66, 243) := (tb_5 _ (List.mem_of_getElem? (i := 76) rfl))
set_option maxRecDepth 10000 in
theorem ma_10 : MAP (10, 35, 245) := (tb_5 _ (List.mem_of_getElem? (i := 139) rfl))
set_option maxRecDepth 10000 in
theorem ma_11 : MAP (12, 347, 242) := (tb_8 _ (List.mem_of_getElem? (i := 3) rfl))
set_option maxRecDepth 10000 in
theorem ma_12 : MAP (12, 363, 243) := (tb_7 _ (List.mem_of_getElem? (i := 231) rfl))
set_option maxRecDepth 10000 in
theorem ma_13 : MAP (12, 369, 246) := (tb_8 _ (List.mem_of_getElem? (i := 11) rfl))
set_option maxRecDepth 10000 in
theorem ma_14 : MAP (12, 373, 244) := (tb_8 _ (List.mem_of_getElem? (i := 12) rfl))
set_option maxRecDepth 10000 in
theorem ma_15 : MAP (12, 402, 245) := (tb_8 _ (List.mem_of_getElem? (i := 38) rfl))
def MA : List (Nat × Nat × Nat) := [(2, 234, 243), (3, 22, 245), (3, 28, 243), (6, 102, 246), (6, 108, 244), (6, 132, 243), (7, 84, 245), (7, 149, 246), (7, 152, 244), (9, 66, 243), (10, 35, 245), (12, 347, 242), (12, 363, 243), (12, 369, 246), (12, 373, 244), (12, 402, 245)]
set_option maxRecDepth 10000 in
theorem MA_ok : ∀ r ∈ MA, MAP r := List.forall_mem_cons.mpr ⟨ma_0, List.forall_mem_cons.mpr ⟨ma_1, List.forall_mem_cons.mpr ⟨ma_2, List.forall_mem_cons.mpr ⟨ma_3, List.forall_mem_cons.mpr ⟨ma_4, List.forall_mem_cons.mpr ⟨ma_5, List.forall_mem_cons.mpr ⟨ma_6, List.forall_mem_cons.mpr ⟨ma_7, List.forall_mem_cons.mpr ⟨ma_8, List.forall_mem_cons.mpr ⟨ma_9, List.forall_mem_cons.mpr ⟨ma_10, List.forall_mem_cons.mpr ⟨ma_11, List.forall_mem_cons.mpr ⟨ma_12, List.forall_mem_cons.mpr ⟨ma_13, List.forall_mem_cons.mpr ⟨ma_14, List.forall_mem_cons.mpr ⟨ma_15, fun _ h => absurd h List.not_mem_nil⟩⟩⟩⟩⟩⟩⟩⟩⟩⟩⟩⟩⟩⟩⟩⟩
set_option maxRecDepth 10000 in
theorem ms_242 : Cond.static (yN 242) ∈ lw_tbl ∧ Cond.code (yN 242) (yB 242) (nlo 242) (yR 242) ∈ lw_tbl ∧ Cond.initialized (yN 242).cls ∈ lw_tbl := ⟨(tb_8 _ (List.mem_of_getElem? (i := 4) rfl)), (tb_8 _ (List.mem_of_getElem? (i := 5) rfl)), (tb_1 _ (List.mem_of_getElem? (i := 15) rfl))⟩
set_option maxRecDepth 10000 in
theorem ms_243 : Cond.static (yN 243) ∈ lw_tbl ∧ Cond.code (yN 243) (yB 243) (nlo 243) (yR 243) ∈ lw_tbl ∧ Cond.initialized (yN 243).cls ∈ lw_tbl := ⟨(tb_3 _ (List.mem_of_getElem? (i := 40) rfl)), (tb_3 _ (List.mem_of_getElem? (i := 41) rfl)), (tb_1 _ (List.mem_of_getElem? (i := 15) rfl))⟩
set_option maxRecDepth 10000 in
theorem ms_244 : Cond.static (yN 244) ∈ lw_tbl ∧ Cond.code (yN 244) (yB 244) (nlo 244) (yR 244) ∈ lw_tbl ∧ Cond.initialized (yN 244).cls ∈ lw_tbl := ⟨(tb_4 _ (List.mem_of_getElem? (i := 125) rfl)), (tb_4 _ (List.mem_of_getElem? (i := 126) rfl)), (tb_1 _ (List.mem_of_getElem? (i := 15) rfl))⟩
set_option maxRecDepth 10000 in
theorem ms_245 : Cond.static (yN 245) ∈ lw_tbl ∧ Cond.code (yN 245) (yB 245) (nlo 245) (yR 245) ∈ lw_tbl ∧ Cond.initialized (yN 245).cls ∈ lw_tbl := ⟨(tb_3 _ (List.mem_of_getElem? (i := 37) rfl)), (tb_3 _ (List.mem_of_getElem? (i := 38) rfl)), (tb_1 _ (List.mem_of_getElem? (i := 15) rfl))⟩
set_option maxRecDepth 10000 in
theorem ms_246 : Cond.static (yN 246) ∈ lw_tbl ∧ Cond.code (yN 246) (yB 246) (nlo 246) (yR 246) ∈ lw_tbl ∧ Cond.initialized (yN 246).cls ∈ lw_tbl := ⟨(tb_4 _ (List.mem_of_getElem? (i := 122) rfl)), (tb_4 _ (List.mem_of_getElem? (i := 123) rfl)), (tb_1 _ (List.mem_of_getElem? (i := 15) rfl))⟩
def ORP (r : Nat × Nat × Nat) : Prop := Cond.methodLink (CN r.1) r.2.1 ({ cls := "PaidFaces$Token", name := "ordinal", desc := "()I" } : MethodName) ∈ lw_tbl
set_option maxRecDepth 10000 in
theorem or_0l : ORP (2, 64, 0) := (tb_3 _ (List.mem_of_getElem? (i := 152) rfl))
set_option maxRecDepth 10000 in
theorem or_1 : ORP (5, 54, 0) := (tb_4 _ (List.mem_of_getElem? (i := 117) rfl))
def OR : List (Nat × Nat × Nat) := [(2, 64, 0), (5, 54, 0)]
set_option maxRecDepth 10000 in
theorem OR_ok : ∀ r ∈ OR, ORP r := List.forall_mem_cons.mpr ⟨or_0l, List.forall_mem_cons.mpr ⟨or_1, fun _ h => absurd h List.not_mem_nil⟩⟩
set_option maxRecDepth 10000 in
theorem w_os : Cond.sameMethod "PaidFaces$Token" "java/lang/Enum" "ordinal" "()I" ∈ lw_tbl := (tb_3 _ (List.mem_of_getElem? (i := 153) rfl))
set_option maxRecDepth 10000 in
theorem w_ol : Cond.selects "PaidFaces$Token" ({ cls := "PaidFaces$Token", name := "ordinal", desc := "()I" } : MethodName) (yN 241) ∈ lw_tbl := (tb_3 _ (List.mem_of_getElem? (i := 155) rfl))
set_option maxRecDepth 10000 in
theorem w_oe : Cond.instanceMethod (yN 241) ∈ lw_tbl := (tb_3 _ (List.mem_of_getElem? (i := 156) rfl))
