/-! the links: what each class's pool numbers mean (printed by a program from the claim's own listing) -/
def fI (c k : Nat) : String × String × String × Bool := match c with
  | 20 => T_20 k
  | 21 => T_21 k
  | 22 => T_22 k
  | 23 => T_23 k
  | 24 => T_24 k
  | 25 => T_25 k
  | 26 => T_26 k
  | 27 => T_27 k
  | 28 => T_28 k
  | 29 => T_29 k
  | 30 => T_30 k
  | 31 => T_31 k
  | 32 => (match k with | 0 => ("PaidFaces$Token", "spelling", "Ljava/lang/String;", true) | 1 => ("PaidFaces$Token", "level", "I", true) | 2 => ("PaidFaces$Token", "name", "I", true) | _ => ("java/lang/Enum", "ordinal", "I", true))
  | _ => (match k with | 0 => ("java/lang/String", "value", "[B", true) | _ => ("java/lang/String", "coder", "B", true))
def nfl (c : Nat) : Nat := match c with
  | 20 => 4
  | 21 => 20
  | 22 => 4
  | 23 => 4
  | 24 => 9
  | 25 => 9
  | 26 => 3
  | 27 => 7
  | 28 => 6
  | 29 => 14
  | 30 => 15
  | 31 => 73
  | 32 => 4
  | 33 => 2
  | _ => 0
def FLP (r : Nat × Nat × Nat × Nat × Nat × Nat × Nat) : Prop := (r.2.2.2.2.2.2 = 0 → Cond.fieldLink (CN r.1) r.2.1 (fI r.2.2.1 r.2.2.2.1).1 (fI r.2.2.1 r.2.2.2.1).2.1 (fI r.2.2.1 r.2.2.2.1).2.2.1 ∈ lw_tbl) ∧ (r.2.2.2.2.2.2 = 1 → Cond.fieldLinkNest (CN r.1) r.2.1 (fI r.2.2.1 r.2.2.2.1).1 (fI r.2.2.1 r.2.2.2.1).2.1 (fI r.2.2.1 r.2.2.2.1).2.2.1 "PaidFaces" ∈ lw_tbl) ∧ r.2.2.2.2.2.2 ≤ 1 ∧ r.2.2.2.1 < nfl r.2.2.1 ∧ dtg (fI r.2.2.1 r.2.2.2.1).2.2.1 = r.2.2.2.2.1 ∧ (r.2.2.2.2.2.1 = 1 ↔ (fI r.2.2.1 r.2.2.2.1).2.2.1 = "Z")
set_option maxRecDepth 10000 in
theorem fl_0 : FLP (1, 11, 30, 0, 2, 0, 0) := ⟨fun _ => (tb_2 _ (List.mem_of_getElem? (i := 206) rfl)), fun h => absurd h (by decide), by decide, by decide, by decide +kernel, by decide +kernel⟩
set_option maxRecDepth 10000 in
theorem fl_1 : FLP (1, 18, 30, 2, 2, 0, 0) := ⟨fun _ => (tb_2 _ (List.mem_of_getElem? (i := 208) rfl)), fun h => absurd h (by decide), by decide, by decide, by decide +kernel, by decide +kernel⟩
set_option maxRecDepth 10000 in
theorem fl_2 : FLP (1, 25, 30, 3, 2, 0, 0) := ⟨fun _ => (tb_2 _ (List.mem_of_getElem? (i := 209) rfl)), fun h => absurd h (by decide), by decide, by decide, by decide +kernel, by decide +kernel⟩
set_option maxRecDepth 10000 in
theorem fl_3 : FLP (1, 29, 30, 4, 2, 0, 0) := ⟨fun _ => (tb_2 _ (List.mem_of_getElem? (i := 210) rfl)), fun h => absurd h (by decide), by decide, by decide, by decide +kernel, by decide +kernel⟩
set_option maxRecDepth 10000 in
theorem fl_4 : FLP (1, 37, 30, 5, 2, 0, 0) := ⟨fun _ => (tb_2 _ (List.mem_of_getElem? (i := 211) rfl)), fun h => absurd h (by decide), by decide, by decide, by decide +kernel, by decide +kernel⟩
set_option maxRecDepth 10000 in
theorem fl_5 : FLP (1, 41, 30, 6, 2, 0, 0) := ⟨fun _ => (tb_2 _ (List.mem_of_getElem? (i := 212) rfl)), fun h => absurd h (by decide), by decide, by decide, by decide +kernel, by decide +kernel⟩
set_option maxRecDepth 10000 in
theorem fl_6 : FLP (1, 44, 30, 7, 2, 0, 0) := ⟨fun _ => (tb_2 _ (List.mem_of_getElem? (i := 213) rfl)), fun h => absurd h (by decide), by decide, by decide, by decide +kernel, by decide +kernel⟩
set_option maxRecDepth 10000 in
theorem fl_7 : FLP (1, 50, 30, 9, 2, 0, 0) := ⟨fun _ => (tb_2 _ (List.mem_of_getElem? (i := 215) rfl)), fun h => absurd h (by decide), by decide, by decide, by decide +kernel, by decide +kernel⟩
set_option maxRecDepth 10000 in
theorem fl_8 : FLP (1, 57, 30, 10, 2, 0, 0) := ⟨fun _ => (tb_2 _ (List.mem_of_getElem? (i := 216) rfl)), fun h => absurd h (by decide), by decide, by decide, by decide +kernel, by decide +kernel⟩
set_option maxRecDepth 10000 in
theorem fl_9 : FLP (1, 63, 30, 11, 2, 0, 0) := ⟨fun _ => (tb_2 _ (List.mem_of_getElem? (i := 217) rfl)), fun h => absurd h (by decide), by decide, by decide, by decide +kernel, by decide +kernel⟩
set_option maxRecDepth 10000 in
theorem fl_10 : FLP (1, 69, 30, 12, 2, 0, 0) := ⟨fun _ => (tb_2 _ (List.mem_of_getElem? (i := 218) rfl)), fun h => absurd h (by decide), by decide, by decide, by decide +kernel, by decide +kernel⟩
set_option maxRecDepth 10000 in
theorem fl_11 : FLP (1, 76, 30, 13, 2, 0, 0) := ⟨fun _ => (tb_2 _ (List.mem_of_getElem? (i := 219) rfl)), fun h => absurd h (by decide), by decide, by decide, by decide +kernel, by decide +kernel⟩
set_option maxRecDepth 10000 in
theorem fl_12 : FLP (1, 83, 30, 14, 2, 0, 0) := ⟨fun _ => (tb_2 _ (List.mem_of_getElem? (i := 220) rfl)), fun h => absurd h (by decide), by decide, by decide, by decide +kernel, by decide +kernel⟩
set_option maxRecDepth 10000 in
theorem fl_13 : FLP (1, 87, 30, 1, 0, 0, 0) := ⟨fun _ => (tb_2 _ (List.mem_of_getElem? (i := 207) rfl)), fun h => absurd h (by decide), by decide, by decide, by decide +kernel, by decide +kernel⟩
set_option maxRecDepth 10000 in
theorem fl_14 : FLP (1, 105, 30, 8, 0, 1, 0) := ⟨fun _ => (tb_2 _ (List.mem_of_getElem? (i := 214) rfl)), fun h => absurd h (by decide), by decide, by decide, by decide +kernel, by decide +kernel⟩
set_option maxRecDepth 10000 in
theorem fl_15 : FLP (1, 110, 25, 6, 0, 0, 1) := ⟨fun h => absurd h (by decide), fun _ => (tb_1 _ (List.mem_of_getElem? (i := 220) rfl)), by decide, by decide, by decide +kernel, by decide +kernel⟩
set_option maxRecDepth 10000 in
theorem fl_16 : FLP (1, 113, 25, 7, 0, 0, 1) := ⟨fun h => absurd h (by decide), fun _ => (tb_1 _ (List.mem_of_getElem? (i := 222) rfl)), by decide, by decide, by decide +kernel, by decide +kernel⟩
set_option maxRecDepth 10000 in
theorem fl_17 : FLP (1, 116, 25, 8, 0, 0, 1) := ⟨fun h => absurd h (by decide), fun _ => (tb_1 _ (List.mem_of_getElem? (i := 224) rfl)), by decide, by decide, by decide +kernel, by decide +kernel⟩
set_option maxRecDepth 10000 in
theorem fl_18 : FLP (1, 137, 29, 6, 2, 0, 1) := ⟨fun h => absurd h (by decide), fun _ => (tb_2 _ (List.mem_of_getElem? (i := 30) rfl)), by decide, by decide, by decide +kernel, by decide +kernel⟩
set_option maxRecDepth 10000 in
theorem fl_19 : FLP (1, 150, 21, 9, 2, 0, 1) := ⟨fun h => absurd h (by decide), fun _ => (tb_1 _ (List.mem_of_getElem? (i := 133) rfl)), by decide, by decide, by decide +kernel, by decide +kernel⟩
set_option maxRecDepth 10000 in
theorem fl_20 : FLP (1, 153, 21, 10, 2, 0, 1) := ⟨fun h => absurd h (by decide), fun _ => (tb_1 _ (List.mem_of_getElem? (i := 136) rfl)), by decide, by decide, by decide +kernel, by decide +kernel⟩
set_option maxRecDepth 10000 in
theorem fl_21 : FLP (1, 164, 21, 12, 2, 0, 1) := ⟨fun h => absurd h (by decide), fun _ => (tb_1 _ (List.mem_of_getElem? (i := 148) rfl)), by decide, by decide, by decide +kernel, by decide +kernel⟩
set_option maxRecDepth 10000 in
theorem fl_22 : FLP (1, 167, 21, 13, 2, 0, 1) := ⟨fun h => absurd h (by decide), fun _ => (tb_1 _ (List.mem_of_getElem? (i := 152) rfl)), by decide, by decide, by decide +kernel, by decide +kernel⟩
set_option maxRecDepth 10000 in
theorem fl_23 : FLP (1, 170, 21, 14, 2, 0, 1) := ⟨fun h => absurd h (by decide), fun _ => (tb_1 _ (List.mem_of_getElem? (i := 156) rfl)), by decide, by decide, by decide +kernel, by decide +kernel⟩
set_option maxRecDepth 10000 in
theorem fl_24 : FLP (1, 173, 29, 7, 2, 0, 1) := ⟨fun h => absurd h (by decide), fun _ => (tb_2 _ (List.mem_of_getElem? (i := 33) rfl)), by decide, by decide, by decide +kernel, by decide +kernel⟩
set_option maxRecDepth 10000 in
theorem fl_25 : FLP (1, 176, 29, 8, 2, 0, 1) := ⟨fun h => absurd h (by decide), fun _ => (tb_2 _ (List.mem_of_getElem? (i := 36) rfl)), by decide, by decide, by decide +kernel, by decide +kernel⟩
set_option maxRecDepth 10000 in
theorem fl_26 : FLP (1, 185, 29, 9, 2, 0, 1) := ⟨fun h => absurd h (by decide), fun _ => (tb_2 _ (List.mem_of_getElem? (i := 40) rfl)), by decide, by decide, by decide +kernel, by decide +kernel⟩
set_option maxRecDepth 10000 in
theorem fl_27 : FLP (1, 194, 29, 1, 0, 0, 1) := ⟨fun h => absurd h (by decide), fun _ => (tb_2 _ (List.mem_of_getElem? (i := 18) rfl)), by decide, by decide, by decide +kernel, by decide +kernel⟩
set_option maxRecDepth 10000 in
theorem fl_28 : FLP (1, 201, 24, 0, 0, 0, 1) := ⟨fun h => absurd h (by decide), fun _ => (tb_2 _ (List.mem_of_getElem? (i := 101) rfl)), by decide, by decide, by decide +kernel, by decide +kernel⟩
set_option maxRecDepth 10000 in
theorem fl_29 : FLP (1, 204, 24, 1, 0, 0, 1) := ⟨fun h => absurd h (by decide), fun _ => (tb_2 _ (List.mem_of_getElem? (i := 103) rfl)), by decide, by decide, by decide +kernel, by decide +kernel⟩
set_option maxRecDepth 10000 in
theorem fl_30 : FLP (1, 207, 24, 2, 0, 0, 1) := ⟨fun h => absurd h (by decide), fun _ => (tb_2 _ (List.mem_of_getElem? (i := 105) rfl)), by decide, by decide, by decide +kernel, by decide +kernel⟩
set_option maxRecDepth 10000 in
theorem fl_31 : FLP (1, 229, 24, 3, 0, 0, 1) := ⟨fun h => absurd h (by decide), fun _ => (tb_2 _ (List.mem_of_getElem? (i := 107) rfl)), by decide, by decide, by decide +kernel, by decide +kernel⟩
set_option maxRecDepth 10000 in
theorem fl_32 : FLP (1, 232, 24, 4, 0, 0, 1) := ⟨fun h => absurd h (by decide), fun _ => (tb_2 _ (List.mem_of_getElem? (i := 109) rfl)), by decide, by decide, by decide +kernel, by decide +kernel⟩
set_option maxRecDepth 10000 in
theorem fl_33 : FLP (1, 235, 24, 5, 0, 0, 1) := ⟨fun h => absurd h (by decide), fun _ => (tb_2 _ (List.mem_of_getElem? (i := 111) rfl)), by decide, by decide, by decide +kernel, by decide +kernel⟩
set_option maxRecDepth 10000 in
theorem fl_34 : FLP (1, 244, 20, 1, 0, 0, 1) := ⟨fun h => absurd h (by decide), fun _ => (tb_2 _ (List.mem_of_getElem? (i := 143) rfl)), by decide, by decide, by decide +kernel, by decide +kernel⟩
set_option maxRecDepth 10000 in
theorem fl_35 : FLP (1, 247, 20, 2, 0, 0, 1) := ⟨fun h => absurd h (by decide), fun _ => (tb_2 _ (List.mem_of_getElem? (i := 145) rfl)), by decide, by decide, by decide +kernel, by decide +kernel⟩
set_option maxRecDepth 10000 in
theorem fl_36 : FLP (1, 250, 20, 3, 0, 0, 1) := ⟨fun h => absurd h (by decide), fun _ => (tb_2 _ (List.mem_of_getElem? (i := 147) rfl)), by decide, by decide, by decide +kernel, by decide +kernel⟩
set_option maxRecDepth 10000 in
theorem fl_37 : FLP (1, 266, 23, 2, 2, 0, 1) := ⟨fun h => absurd h (by decide), fun _ => (tb_2 _ (List.mem_of_getElem? (i := 167) rfl)), by decide, by decide, by decide +kernel, by decide +kernel⟩
set_option maxRecDepth 10000 in
theorem fl_38 : FLP (1, 269, 23, 3, 0, 0, 1) := ⟨fun h => absurd h (by decide), fun _ => (tb_2 _ (List.mem_of_getElem? (i := 169) rfl)), by decide, by decide, by decide +kernel, by decide +kernel⟩
set_option maxRecDepth 10000 in
theorem fl_39 : FLP (1, 272, 21, 11, 0, 0, 1) := ⟨fun h => absurd h (by decide), fun _ => (tb_1 _ (List.mem_of_getElem? (i := 144) rfl)), by decide, by decide, by decide +kernel, by decide +kernel⟩
set_option maxRecDepth 10000 in
theorem fl_40 : FLP (1, 278, 29, 5, 0, 0, 1) := ⟨fun h => absurd h (by decide), fun _ => (tb_2 _ (List.mem_of_getElem? (i := 27) rfl)), by decide, by decide, by decide +kernel, by decide +kernel⟩
set_option maxRecDepth 10000 in
theorem fl_41 : FLP (1, 295, 28, 2, 0, 0, 1) := ⟨fun h => absurd h (by decide), fun _ => (tb_2 _ (List.mem_of_getElem? (i := 188) rfl)), by decide, by decide, by decide +kernel, by decide +kernel⟩
set_option maxRecDepth 10000 in
theorem fl_42 : FLP (1, 298, 28, 3, 0, 0, 1) := ⟨fun h => absurd h (by decide), fun _ => (tb_2 _ (List.mem_of_getElem? (i := 190) rfl)), by decide, by decide, by decide +kernel, by decide +kernel⟩
set_option maxRecDepth 10000 in
theorem fl_43 : FLP (1, 304, 21, 4, 0, 0, 1) := ⟨fun h => absurd h (by decide), fun _ => (tb_1 _ (List.mem_of_getElem? (i := 123) rfl)), by decide, by decide, by decide +kernel, by decide +kernel⟩
set_option maxRecDepth 10000 in
theorem fl_44 : FLP (1, 310, 21, 0, 0, 0, 1) := ⟨fun h => absurd h (by decide), fun _ => (tb_1 _ (List.mem_of_getElem? (i := 114) rfl)), by decide, by decide, by decide +kernel, by decide +kernel⟩
set_option maxRecDepth 10000 in
theorem fl_45 : FLP (1, 313, 21, 15, 0, 0, 1) := ⟨fun h => absurd h (by decide), fun _ => (tb_1 _ (List.mem_of_getElem? (i := 161) rfl)), by decide, by decide, by decide +kernel, by decide +kernel⟩
set_option maxRecDepth 10000 in
theorem fl_46 : FLP (1, 322, 26, 2, 0, 0, 1) := ⟨fun h => absurd h (by decide), fun _ => (tb_2 _ (List.mem_of_getElem? (i := 86) rfl)), by decide, by decide, by decide +kernel, by decide +kernel⟩
set_option maxRecDepth 10000 in
theorem fl_47 : FLP (1, 323, 29, 2, 0, 0, 1) := ⟨fun h => absurd h (by decide), fun _ => (tb_2 _ (List.mem_of_getElem? (i := 21) rfl)), by decide, by decide, by decide +kernel, by decide +kernel⟩
set_option maxRecDepth 10000 in
theorem fl_48 : FLP (2, 12, 25, 0, 2, 0, 0) := ⟨fun _ => (tb_1 _ (List.mem_of_getElem? (i := 213) rfl)), fun h => absurd h (by decide), by decide, by decide, by decide +kernel, by decide +kernel⟩
set_option maxRecDepth 10000 in
theorem fl_49 : FLP (2, 21, 25, 1, 2, 0, 0) := ⟨fun _ => (tb_1 _ (List.mem_of_getElem? (i := 214) rfl)), fun h => absurd h (by decide), by decide, by decide, by decide +kernel, by decide +kernel⟩
set_option maxRecDepth 10000 in
theorem fl_50 : FLP (2, 27, 25, 2, 2, 0, 0) := ⟨fun _ => (tb_1 _ (List.mem_of_getElem? (i := 215) rfl)), fun h => absurd h (by decide), by decide, by decide, by decide +kernel, by decide +kernel⟩
set_option maxRecDepth 10000 in
theorem fl_51 : FLP (2, 31, 25, 8, 0, 0, 0) := ⟨fun _ => (tb_1 _ (List.mem_of_getElem? (i := 223) rfl)), fun h => absurd h (by decide), by decide, by decide, by decide +kernel, by decide +kernel⟩
set_option maxRecDepth 10000 in
theorem fl_52 : FLP (2, 38, 25, 5, 0, 0, 0) := ⟨fun _ => (tb_1 _ (List.mem_of_getElem? (i := 218) rfl)), fun h => absurd h (by decide), by decide, by decide, by decide +kernel, by decide +kernel⟩
set_option maxRecDepth 10000 in
theorem fl_53 : FLP (2, 41, 25, 6, 0, 0, 0) := ⟨fun _ => (tb_1 _ (List.mem_of_getElem? (i := 219) rfl)), fun h => absurd h (by decide), by decide, by decide, by decide +kernel, by decide +kernel⟩
set_option maxRecDepth 10000 in
theorem fl_54 : FLP (2, 44, 25, 7, 0, 0, 0) := ⟨fun _ => (tb_1 _ (List.mem_of_getElem? (i := 221) rfl)), fun h => absurd h (by decide), by decide, by decide, by decide +kernel, by decide +kernel⟩
set_option maxRecDepth 10000 in
theorem fl_55 : FLP (2, 51, 27, 3, 2, 0, 1) := ⟨fun h => absurd h (by decide), fun _ => (tb_1 _ (List.mem_of_getElem? (i := 53) rfl)), by decide, by decide, by decide +kernel, by decide +kernel⟩
set_option maxRecDepth 10000 in
theorem fl_56 : FLP (2, 103, 27, 4, 0, 0, 1) := ⟨fun h => absurd h (by decide), fun _ => (tb_1 _ (List.mem_of_getElem? (i := 54) rfl)), by decide, by decide, by decide +kernel, by decide +kernel⟩
set_option maxRecDepth 10000 in
theorem fl_57 : FLP (2, 106, 21, 0, 0, 0, 1) := ⟨fun h => absurd h (by decide), fun _ => (tb_1 _ (List.mem_of_getElem? (i := 113) rfl)), by decide, by decide, by decide +kernel, by decide +kernel⟩
set_option maxRecDepth 10000 in
theorem fl_58 : FLP (2, 109, 27, 6, 0, 0, 1) := ⟨fun h => absurd h (by decide), fun _ => (tb_1 _ (List.mem_of_getElem? (i := 59) rfl)), by decide, by decide, by decide +kernel, by decide +kernel⟩
set_option maxRecDepth 10000 in
theorem fl_59 : FLP (2, 119, 27, 5, 0, 0, 1) := ⟨fun h => absurd h (by decide), fun _ => (tb_1 _ (List.mem_of_getElem? (i := 56) rfl)), by decide, by decide, by decide +kernel, by decide +kernel⟩
set_option maxRecDepth 10000 in
theorem fl_60 : FLP (2, 130, 21, 4, 0, 0, 1) := ⟨fun h => absurd h (by decide), fun _ => (tb_1 _ (List.mem_of_getElem? (i := 122) rfl)), by decide, by decide, by decide +kernel, by decide +kernel⟩
set_option maxRecDepth 10000 in
theorem fl_61 : FLP (2, 148, 21, 11, 0, 0, 1) := ⟨fun h => absurd h (by decide), fun _ => (tb_1 _ (List.mem_of_getElem? (i := 142) rfl)), by decide, by decide, by decide +kernel, by decide +kernel⟩
set_option maxRecDepth 10000 in
theorem fl_62 : FLP (2, 170, 21, 15, 0, 0, 1) := ⟨fun h => absurd h (by decide), fun _ => (tb_1 _ (List.mem_of_getElem? (i := 159) rfl)), by decide, by decide, by decide +kernel, by decide +kernel⟩
set_option maxRecDepth 10000 in
theorem fl_63 : FLP (2, 176, 21, 8, 0, 0, 1) := ⟨fun h => absurd h (by decide), fun _ => (tb_1 _ (List.mem_of_getElem? (i := 130) rfl)), by decide, by decide, by decide +kernel, by decide +kernel⟩
set_option maxRecDepth 10000 in
theorem fl_64 : FLP (2, 179, 21, 9, 2, 0, 1) := ⟨fun h => absurd h (by decide), fun _ => (tb_1 _ (List.mem_of_getElem? (i := 134) rfl)), by decide, by decide, by decide +kernel, by decide +kernel⟩
set_option maxRecDepth 10000 in
theorem fl_65 : FLP (2, 182, 21, 10, 2, 0, 1) := ⟨fun h => absurd h (by decide), fun _ => (tb_1 _ (List.mem_of_getElem? (i := 137) rfl)), by decide, by decide, by decide +kernel, by decide +kernel⟩
set_option maxRecDepth 10000 in
theorem fl_66 : FLP (2, 185, 21, 17, 0, 1, 1) := ⟨fun h => absurd h (by decide), fun _ => (tb_1 _ (List.mem_of_getElem? (i := 165) rfl)), by decide, by decide, by decide +kernel, by decide +kernel⟩
set_option maxRecDepth 10000 in
theorem fl_67 : FLP (2, 189, 21, 18, 2, 0, 1) := ⟨fun h => absurd h (by decide), fun _ => (tb_1 _ (List.mem_of_getElem? (i := 167) rfl)), by decide, by decide, by decide +kernel, by decide +kernel⟩
set_option maxRecDepth 10000 in
theorem fl_68 : FLP (2, 193, 21, 19, 2, 0, 1) := ⟨fun h => absurd h (by decide), fun _ => (tb_1 _ (List.mem_of_getElem? (i := 170) rfl)), by decide, by decide, by decide +kernel, by decide +kernel⟩
set_option maxRecDepth 10000 in
theorem fl_69 : FLP (2, 197, 22, 3, 0, 0, 1) := ⟨fun h => absurd h (by decide), fun _ => (tb_1 _ (List.mem_of_getElem? (i := 99) rfl)), by decide, by decide, by decide +kernel, by decide +kernel⟩
set_option maxRecDepth 10000 in
theorem fl_70 : FLP (2, 206, 25, 3, 0, 0, 0) := ⟨fun _ => (tb_1 _ (List.mem_of_getElem? (i := 216) rfl)), fun h => absurd h (by decide), by decide, by decide, by decide +kernel, by decide +kernel⟩
set_option maxRecDepth 10000 in
theorem fl_71 : FLP (2, 209, 25, 4, 0, 0, 0) := ⟨fun _ => (tb_1 _ (List.mem_of_getElem? (i := 217) rfl)), fun h => absurd h (by decide), by decide, by decide, by decide +kernel, by decide +kernel⟩
set_option maxRecDepth 10000 in
theorem fl_72 : FLP (2, 221, 32, 1, 0, 0, 1) := ⟨fun h => absurd h (by decide), fun _ => (tb_8 _ (List.mem_of_getElem? (i := 225) rfl)), by decide, by decide, by decide +kernel, by decide +kernel⟩
set_option maxRecDepth 10000 in
theorem fl_73 : FLP (2, 249, 32, 2, 0, 0, 1) := ⟨fun h => absurd h (by decide), fun _ => (tb_8 _ (List.mem_of_getElem? (i := 226) rfl)), by decide, by decide, by decide +kernel, by decide +kernel⟩
set_option maxRecDepth 10000 in
theorem fl_74 : FLP (3, 7, 27, 0, 2, 0, 0) := ⟨fun _ => (tb_1 _ (List.mem_of_getElem? (i := 49) rfl)), fun h => absurd h (by decide), by decide, by decide, by decide +kernel, by decide +kernel⟩
set_option maxRecDepth 10000 in
theorem fl_75 : FLP (3, 19, 27, 3, 2, 0, 0) := ⟨fun _ => (tb_1 _ (List.mem_of_getElem? (i := 52) rfl)), fun h => absurd h (by decide), by decide, by decide, by decide +kernel, by decide +kernel⟩
set_option maxRecDepth 10000 in
theorem fl_76 : FLP (3, 31, 27, 1, 0, 0, 0) := ⟨fun _ => (tb_1 _ (List.mem_of_getElem? (i := 50) rfl)), fun h => absurd h (by decide), by decide, by decide, by decide +kernel, by decide +kernel⟩
set_option maxRecDepth 10000 in
theorem fl_77 : FLP (3, 35, 27, 2, 0, 0, 0) := ⟨fun _ => (tb_1 _ (List.mem_of_getElem? (i := 51) rfl)), fun h => absurd h (by decide), by decide, by decide, by decide +kernel, by decide +kernel⟩
set_option maxRecDepth 10000 in
theorem fl_78 : FLP (3, 41, 27, 4, 0, 0, 0) := ⟨fun _ => (tb_1 _ (List.mem_of_getElem? (i := 55) rfl)), fun h => absurd h (by decide), by decide, by decide, by decide +kernel, by decide +kernel⟩
set_option maxRecDepth 10000 in
theorem fl_79 : FLP (3, 53, 27, 6, 0, 0, 0) := ⟨fun _ => (tb_1 _ (List.mem_of_getElem? (i := 58) rfl)), fun h => absurd h (by decide), by decide, by decide, by decide +kernel, by decide +kernel⟩
set_option maxRecDepth 10000 in
theorem fl_80 : FLP (3, 60, 32, 0, 2, 0, 1) := ⟨fun h => absurd h (by decide), fun _ => (tb_8 _ (List.mem_of_getElem? (i := 221) rfl)), by decide, by decide, by decide +kernel, by decide +kernel⟩
set_option maxRecDepth 10000 in
theorem fl_81 : FLP (3, 86, 27, 5, 0, 0, 0) := ⟨fun _ => (tb_1 _ (List.mem_of_getElem? (i := 57) rfl)), fun h => absurd h (by decide), by decide, by decide, by decide +kernel, by decide +kernel⟩
set_option maxRecDepth 10000 in
theorem fl_82 : FLP (4, 9, 21, 1, 2, 0, 0) := ⟨fun _ => (tb_1 _ (List.mem_of_getElem? (i := 115) rfl)), fun h => absurd h (by decide), by decide, by decide, by decide +kernel, by decide +kernel⟩
set_option maxRecDepth 10000 in
theorem fl_83 : FLP (4, 15, 21, 2, 2, 0, 0) := ⟨fun _ => (tb_1 _ (List.mem_of_getElem? (i := 116) rfl)), fun h => absurd h (by decide), by decide, by decide, by decide +kernel, by decide +kernel⟩
set_option maxRecDepth 10000 in
theorem fl_84 : FLP (4, 18, 21, 3, 2, 0, 0) := ⟨fun _ => (tb_1 _ (List.mem_of_getElem? (i := 117) rfl)), fun h => absurd h (by decide), by decide, by decide, by decide +kernel, by decide +kernel⟩
set_option maxRecDepth 10000 in
theorem fl_85 : FLP (4, 21, 21, 5, 2, 0, 0) := ⟨fun _ => (tb_1 _ (List.mem_of_getElem? (i := 124) rfl)), fun h => absurd h (by decide), by decide, by decide, by decide +kernel, by decide +kernel⟩
set_option maxRecDepth 10000 in
theorem fl_86 : FLP (4, 24, 21, 6, 2, 0, 0) := ⟨fun _ => (tb_1 _ (List.mem_of_getElem? (i := 125) rfl)), fun h => absurd h (by decide), by decide, by decide, by decide +kernel, by decide +kernel⟩
set_option maxRecDepth 10000 in
theorem fl_87 : FLP (4, 27, 21, 7, 2, 0, 0) := ⟨fun _ => (tb_1 _ (List.mem_of_getElem? (i := 127) rfl)), fun h => absurd h (by decide), by decide, by decide, by decide +kernel, by decide +kernel⟩
set_option maxRecDepth 10000 in
theorem fl_88 : FLP (4, 30, 21, 9, 2, 0, 0) := ⟨fun _ => (tb_1 _ (List.mem_of_getElem? (i := 131) rfl)), fun h => absurd h (by decide), by decide, by decide, by decide +kernel, by decide +kernel⟩
set_option maxRecDepth 10000 in
theorem fl_89 : FLP (4, 33, 21, 10, 2, 0, 0) := ⟨fun _ => (tb_1 _ (List.mem_of_getElem? (i := 135) rfl)), fun h => absurd h (by decide), by decide, by decide, by decide +kernel, by decide +kernel⟩
set_option maxRecDepth 10000 in
theorem fl_90 : FLP (4, 36, 21, 12, 2, 0, 0) := ⟨fun _ => (tb_1 _ (List.mem_of_getElem? (i := 145) rfl)), fun h => absurd h (by decide), by decide, by decide, by decide +kernel, by decide +kernel⟩
set_option maxRecDepth 10000 in
theorem fl_91 : FLP (4, 39, 21, 13, 2, 0, 0) := ⟨fun _ => (tb_1 _ (List.mem_of_getElem? (i := 149) rfl)), fun h => absurd h (by decide), by decide, by decide, by decide +kernel, by decide +kernel⟩
set_option maxRecDepth 10000 in
theorem fl_92 : FLP (4, 42, 21, 14, 2, 0, 0) := ⟨fun _ => (tb_1 _ (List.mem_of_getElem? (i := 154) rfl)), fun h => absurd h (by decide), by decide, by decide, by decide +kernel, by decide +kernel⟩
set_option maxRecDepth 10000 in
theorem fl_93 : FLP (4, 47, 21, 16, 2, 0, 0) := ⟨fun _ => (tb_1 _ (List.mem_of_getElem? (i := 162) rfl)), fun h => absurd h (by decide), by decide, by decide, by decide +kernel, by decide +kernel⟩
set_option maxRecDepth 10000 in
theorem fl_94 : FLP (4, 50, 21, 18, 2, 0, 0) := ⟨fun _ => (tb_1 _ (List.mem_of_getElem? (i := 166) rfl)), fun h => absurd h (by decide), by decide, by decide, by decide +kernel, by decide +kernel⟩
set_option maxRecDepth 10000 in
theorem fl_95 : FLP (4, 57, 21, 19, 2, 0, 0) := ⟨fun _ => (tb_1 _ (List.mem_of_getElem? (i := 168) rfl)), fun h => absurd h (by decide), by decide, by decide, by decide +kernel, by decide +kernel⟩
set_option maxRecDepth 10000 in
theorem fl_96 : FLP (4, 61, 21, 0, 0, 0, 0) := ⟨fun _ => (tb_1 _ (List.mem_of_getElem? (i := 112) rfl)), fun h => absurd h (by decide), by decide, by decide, by decide +kernel, by decide +kernel⟩
set_option maxRecDepth 10000 in
theorem fl_97 : FLP (4, 65, 21, 4, 0, 0, 0) := ⟨fun _ => (tb_1 _ (List.mem_of_getElem? (i := 118) rfl)), fun h => absurd h (by decide), by decide, by decide, by decide +kernel, by decide +kernel⟩
set_option maxRecDepth 10000 in
theorem fl_98 : FLP (4, 68, 21, 8, 0, 0, 0) := ⟨fun _ => (tb_1 _ (List.mem_of_getElem? (i := 129) rfl)), fun h => absurd h (by decide), by decide, by decide, by decide +kernel, by decide +kernel⟩
set_option maxRecDepth 10000 in
theorem fl_99 : FLP (4, 71, 21, 11, 0, 0, 0) := ⟨fun _ => (tb_1 _ (List.mem_of_getElem? (i := 140) rfl)), fun h => absurd h (by decide), by decide, by decide, by decide +kernel, by decide +kernel⟩
set_option maxRecDepth 10000 in
theorem fl_100 : FLP (4, 74, 21, 15, 0, 0, 0) := ⟨fun _ => (tb_1 _ (List.mem_of_getElem? (i := 158) rfl)), fun h => absurd h (by decide), by decide, by decide, by decide +kernel, by decide +kernel⟩
set_option maxRecDepth 10000 in
theorem fl_101 : FLP (4, 77, 21, 17, 0, 1, 0) := ⟨fun _ => (tb_1 _ (List.mem_of_getElem? (i := 164) rfl)), fun h => absurd h (by decide), by decide, by decide, by decide +kernel, by decide +kernel⟩
set_option maxRecDepth 10000 in
theorem fl_102 : FLP (4, 81, 22, 3, 0, 0, 1) := ⟨fun h => absurd h (by decide), fun _ => (tb_1 _ (List.mem_of_getElem? (i := 97) rfl)), by decide, by decide, by decide +kernel, by decide +kernel⟩
set_option maxRecDepth 10000 in
theorem fl_103 : FLP (5, 11, 22, 0, 2, 0, 0) := ⟨fun _ => (tb_1 _ (List.mem_of_getElem? (i := 93) rfl)), fun h => absurd h (by decide), by decide, by decide, by decide +kernel, by decide +kernel⟩
set_option maxRecDepth 10000 in
theorem fl_104 : FLP (5, 17, 22, 1, 2, 0, 0) := ⟨fun _ => (tb_1 _ (List.mem_of_getElem? (i := 94) rfl)), fun h => absurd h (by decide), by decide, by decide, by decide +kernel, by decide +kernel⟩
set_option maxRecDepth 10000 in
theorem fl_105 : FLP (5, 21, 22, 2, 2, 0, 0) := ⟨fun _ => (tb_1 _ (List.mem_of_getElem? (i := 95) rfl)), fun h => absurd h (by decide), by decide, by decide, by decide +kernel, by decide +kernel⟩
set_option maxRecDepth 10000 in
theorem fl_106 : FLP (5, 25, 22, 3, 0, 0, 0) := ⟨fun _ => (tb_1 _ (List.mem_of_getElem? (i := 96) rfl)), fun h => absurd h (by decide), by decide, by decide, by decide +kernel, by decide +kernel⟩
set_option maxRecDepth 10000 in
theorem fl_107 : FLP (5, 31, 32, 1, 0, 0, 1) := ⟨fun h => absurd h (by decide), fun _ => (tb_8 _ (List.mem_of_getElem? (i := 227) rfl)), by decide, by decide, by decide +kernel, by decide +kernel⟩
set_option maxRecDepth 10000 in
theorem fl_108 : FLP (5, 34, 32, 2, 0, 0, 1) := ⟨fun h => absurd h (by decide), fun _ => (tb_8 _ (List.mem_of_getElem? (i := 228) rfl)), by decide, by decide, by decide +kernel, by decide +kernel⟩
set_option maxRecDepth 10000 in
theorem fl_109 : FLP (6, 9, 29, 6, 2, 0, 0) := ⟨fun _ => (tb_2 _ (List.mem_of_getElem? (i := 28) rfl)), fun h => absurd h (by decide), by decide, by decide, by decide +kernel, by decide +kernel⟩
set_option maxRecDepth 10000 in
theorem fl_110 : FLP (6, 15, 29, 7, 2, 0, 0) := ⟨fun _ => (tb_2 _ (List.mem_of_getElem? (i := 31) rfl)), fun h => absurd h (by decide), by decide, by decide, by decide +kernel, by decide +kernel⟩
set_option maxRecDepth 10000 in
theorem fl_111 : FLP (6, 18, 29, 8, 2, 0, 0) := ⟨fun _ => (tb_2 _ (List.mem_of_getElem? (i := 34) rfl)), fun h => absurd h (by decide), by decide, by decide, by decide +kernel, by decide +kernel⟩
set_option maxRecDepth 10000 in
theorem fl_112 : FLP (6, 21, 29, 9, 2, 0, 0) := ⟨fun _ => (tb_2 _ (List.mem_of_getElem? (i := 37) rfl)), fun h => absurd h (by decide), by decide, by decide, by decide +kernel, by decide +kernel⟩
set_option maxRecDepth 10000 in
theorem fl_113 : FLP (6, 24, 29, 11, 2, 0, 0) := ⟨fun _ => (tb_2 _ (List.mem_of_getElem? (i := 42) rfl)), fun h => absurd h (by decide), by decide, by decide, by decide +kernel, by decide +kernel⟩
set_option maxRecDepth 10000 in
theorem fl_114 : FLP (6, 27, 29, 12, 2, 0, 0) := ⟨fun _ => (tb_2 _ (List.mem_of_getElem? (i := 43) rfl)), fun h => absurd h (by decide), by decide, by decide, by decide +kernel, by decide +kernel⟩
set_option maxRecDepth 10000 in
theorem fl_115 : FLP (6, 30, 29, 13, 2, 0, 0) := ⟨fun _ => (tb_2 _ (List.mem_of_getElem? (i := 44) rfl)), fun h => absurd h (by decide), by decide, by decide, by decide +kernel, by decide +kernel⟩
set_option maxRecDepth 10000 in
theorem fl_116 : FLP (6, 33, 29, 0, 2, 0, 0) := ⟨fun _ => (tb_2 _ (List.mem_of_getElem? (i := 12) rfl)), fun h => absurd h (by decide), by decide, by decide, by decide +kernel, by decide +kernel⟩
set_option maxRecDepth 10000 in
theorem fl_117 : FLP (6, 37, 29, 1, 0, 0, 0) := ⟨fun _ => (tb_2 _ (List.mem_of_getElem? (i := 16) rfl)), fun h => absurd h (by decide), by decide, by decide, by decide +kernel, by decide +kernel⟩
set_option maxRecDepth 10000 in
theorem fl_118 : FLP (6, 41, 29, 2, 0, 0, 0) := ⟨fun _ => (tb_2 _ (List.mem_of_getElem? (i := 19) rfl)), fun h => absurd h (by decide), by decide, by decide, by decide +kernel, by decide +kernel⟩
set_option maxRecDepth 10000 in
theorem fl_119 : FLP (6, 44, 29, 3, 0, 0, 0) := ⟨fun _ => (tb_2 _ (List.mem_of_getElem? (i := 22) rfl)), fun h => absurd h (by decide), by decide, by decide, by decide +kernel, by decide +kernel⟩
set_option maxRecDepth 10000 in
theorem fl_120 : FLP (6, 47, 29, 4, 0, 0, 0) := ⟨fun _ => (tb_2 _ (List.mem_of_getElem? (i := 23) rfl)), fun h => absurd h (by decide), by decide, by decide, by decide +kernel, by decide +kernel⟩
set_option maxRecDepth 10000 in
theorem fl_121 : FLP (6, 50, 29, 5, 0, 0, 0) := ⟨fun _ => (tb_2 _ (List.mem_of_getElem? (i := 25) rfl)), fun h => absurd h (by decide), by decide, by decide, by decide +kernel, by decide +kernel⟩
set_option maxRecDepth 10000 in
theorem fl_122 : FLP (6, 53, 29, 10, 0, 0, 0) := ⟨fun _ => (tb_2 _ (List.mem_of_getElem? (i := 41) rfl)), fun h => absurd h (by decide), by decide, by decide, by decide +kernel, by decide +kernel⟩
set_option maxRecDepth 10000 in
theorem fl_123 : FLP (6, 56, 21, 4, 0, 0, 1) := ⟨fun h => absurd h (by decide), fun _ => (tb_1 _ (List.mem_of_getElem? (i := 119) rfl)), by decide, by decide, by decide +kernel, by decide +kernel⟩
set_option maxRecDepth 10000 in
theorem fl_124 : FLP (6, 61, 21, 6, 2, 0, 1) := ⟨fun h => absurd h (by decide), fun _ => (tb_1 _ (List.mem_of_getElem? (i := 126) rfl)), by decide, by decide, by decide +kernel, by decide +kernel⟩
set_option maxRecDepth 10000 in
theorem fl_125 : FLP (6, 82, 21, 12, 2, 0, 1) := ⟨fun h => absurd h (by decide), fun _ => (tb_1 _ (List.mem_of_getElem? (i := 147) rfl)), by decide, by decide, by decide +kernel, by decide +kernel⟩
set_option maxRecDepth 10000 in
theorem fl_126 : FLP (6, 111, 21, 19, 2, 0, 1) := ⟨fun h => absurd h (by decide), fun _ => (tb_1 _ (List.mem_of_getElem? (i := 169) rfl)), by decide, by decide, by decide +kernel, by decide +kernel⟩
set_option maxRecDepth 10000 in
theorem fl_127 : FLP (6, 115, 22, 3, 0, 0, 1) := ⟨fun h => absurd h (by decide), fun _ => (tb_1 _ (List.mem_of_getElem? (i := 98) rfl)), by decide, by decide, by decide +kernel, by decide +kernel⟩
set_option maxRecDepth 10000 in
theorem fl_128 : FLP (6, 129, 21, 14, 2, 0, 1) := ⟨fun h => absurd h (by decide), fun _ => (tb_1 _ (List.mem_of_getElem? (i := 157) rfl)), by decide, by decide, by decide +kernel, by decide +kernel⟩
set_option maxRecDepth 10000 in
theorem fl_129 : FLP (6, 139, 21, 11, 0, 0, 1) := ⟨fun h => absurd h (by decide), fun _ => (tb_1 _ (List.mem_of_getElem? (i := 143) rfl)), by decide, by decide, by decide +kernel, by decide +kernel⟩
set_option maxRecDepth 10000 in
theorem fl_130 : FLP (6, 142, 21, 13, 2, 0, 1) := ⟨fun h => absurd h (by decide), fun _ => (tb_1 _ (List.mem_of_getElem? (i := 153) rfl)), by decide, by decide, by decide +kernel, by decide +kernel⟩
set_option maxRecDepth 10000 in
theorem fl_131 : FLP (6, 149, 21, 15, 0, 0, 1) := ⟨fun h => absurd h (by decide), fun _ => (tb_1 _ (List.mem_of_getElem? (i := 160) rfl)), by decide, by decide, by decide +kernel, by decide +kernel⟩
set_option maxRecDepth 10000 in
theorem fl_132 : FLP (6, 152, 21, 16, 2, 0, 1) := ⟨fun h => absurd h (by decide), fun _ => (tb_1 _ (List.mem_of_getElem? (i := 163) rfl)), by decide, by decide, by decide +kernel, by decide +kernel⟩
set_option maxRecDepth 10000 in
theorem fl_133 : FLP (6, 163, 21, 10, 2, 0, 1) := ⟨fun h => absurd h (by decide), fun _ => (tb_1 _ (List.mem_of_getElem? (i := 138) rfl)), by decide, by decide, by decide +kernel, by decide +kernel⟩
set_option maxRecDepth 10000 in
theorem fl_134 : FLP (7, 9, 24, 1, 0, 0, 0) := ⟨fun _ => (tb_2 _ (List.mem_of_getElem? (i := 102) rfl)), fun h => absurd h (by decide), by decide, by decide, by decide +kernel, by decide +kernel⟩
set_option maxRecDepth 10000 in
theorem fl_135 : FLP (7, 15, 24, 6, 2, 0, 0) := ⟨fun _ => (tb_2 _ (List.mem_of_getElem? (i := 112) rfl)), fun h => absurd h (by decide), by decide, by decide, by decide +kernel, by decide +kernel⟩
set_option maxRecDepth 10000 in
theorem fl_136 : FLP (7, 19, 24, 7, 2, 0, 0) := ⟨fun _ => (tb_2 _ (List.mem_of_getElem? (i := 113) rfl)), fun h => absurd h (by decide), by decide, by decide, by decide +kernel, by decide +kernel⟩
set_option maxRecDepth 10000 in
theorem fl_137 : FLP (7, 22, 24, 8, 2, 0, 0) := ⟨fun _ => (tb_2 _ (List.mem_of_getElem? (i := 114) rfl)), fun h => absurd h (by decide), by decide, by decide, by decide +kernel, by decide +kernel⟩
set_option maxRecDepth 10000 in
theorem fl_138 : FLP (7, 29, 24, 0, 0, 0, 0) := ⟨fun _ => (tb_2 _ (List.mem_of_getElem? (i := 100) rfl)), fun h => absurd h (by decide), by decide, by decide, by decide +kernel, by decide +kernel⟩
set_option maxRecDepth 10000 in
theorem fl_139 : FLP (7, 32, 29, 0, 2, 0, 1) := ⟨fun h => absurd h (by decide), fun _ => (tb_2 _ (List.mem_of_getElem? (i := 15) rfl)), by decide, by decide, by decide +kernel, by decide +kernel⟩
set_option maxRecDepth 10000 in
theorem fl_140 : FLP (7, 38, 29, 1, 0, 0, 1) := ⟨fun h => absurd h (by decide), fun _ => (tb_2 _ (List.mem_of_getElem? (i := 17) rfl)), by decide, by decide, by decide +kernel, by decide +kernel⟩
set_option maxRecDepth 10000 in
theorem fl_141 : FLP (7, 62, 24, 2, 0, 0, 0) := ⟨fun _ => (tb_2 _ (List.mem_of_getElem? (i := 104) rfl)), fun h => absurd h (by decide), by decide, by decide, by decide +kernel, by decide +kernel⟩
set_option maxRecDepth 10000 in
theorem fl_142 : FLP (7, 65, 21, 4, 0, 0, 1) := ⟨fun h => absurd h (by decide), fun _ => (tb_1 _ (List.mem_of_getElem? (i := 121) rfl)), by decide, by decide, by decide +kernel, by decide +kernel⟩
set_option maxRecDepth 10000 in
theorem fl_143 : FLP (7, 74, 21, 7, 2, 0, 1) := ⟨fun h => absurd h (by decide), fun _ => (tb_1 _ (List.mem_of_getElem? (i := 128) rfl)), by decide, by decide, by decide +kernel, by decide +kernel⟩
set_option maxRecDepth 10000 in
theorem fl_144 : FLP (7, 81, 29, 7, 2, 0, 1) := ⟨fun h => absurd h (by decide), fun _ => (tb_2 _ (List.mem_of_getElem? (i := 32) rfl)), by decide, by decide, by decide +kernel, by decide +kernel⟩
set_option maxRecDepth 10000 in
theorem fl_145 : FLP (7, 90, 21, 9, 2, 0, 1) := ⟨fun h => absurd h (by decide), fun _ => (tb_1 _ (List.mem_of_getElem? (i := 132) rfl)), by decide, by decide, by decide +kernel, by decide +kernel⟩
set_option maxRecDepth 10000 in
theorem fl_146 : FLP (7, 100, 29, 2, 0, 0, 1) := ⟨fun h => absurd h (by decide), fun _ => (tb_2 _ (List.mem_of_getElem? (i := 20) rfl)), by decide, by decide, by decide +kernel, by decide +kernel⟩
set_option maxRecDepth 10000 in
theorem fl_147 : FLP (7, 103, 21, 11, 0, 0, 1) := ⟨fun h => absurd h (by decide), fun _ => (tb_1 _ (List.mem_of_getElem? (i := 141) rfl)), by decide, by decide, by decide +kernel, by decide +kernel⟩
set_option maxRecDepth 10000 in
theorem fl_148 : FLP (7, 106, 21, 12, 2, 0, 1) := ⟨fun h => absurd h (by decide), fun _ => (tb_1 _ (List.mem_of_getElem? (i := 146) rfl)), by decide, by decide, by decide +kernel, by decide +kernel⟩
set_option maxRecDepth 10000 in
theorem fl_149 : FLP (7, 115, 29, 6, 2, 0, 1) := ⟨fun h => absurd h (by decide), fun _ => (tb_2 _ (List.mem_of_getElem? (i := 29) rfl)), by decide, by decide, by decide +kernel, by decide +kernel⟩
set_option maxRecDepth 10000 in
theorem fl_150 : FLP (7, 129, 21, 13, 2, 0, 1) := ⟨fun h => absurd h (by decide), fun _ => (tb_1 _ (List.mem_of_getElem? (i := 151) rfl)), by decide, by decide, by decide +kernel, by decide +kernel⟩
set_option maxRecDepth 10000 in
theorem fl_151 : FLP (7, 132, 21, 14, 2, 0, 1) := ⟨fun h => absurd h (by decide), fun _ => (tb_1 _ (List.mem_of_getElem? (i := 155) rfl)), by decide, by decide, by decide +kernel, by decide +kernel⟩
set_option maxRecDepth 10000 in
theorem fl_152 : FLP (7, 138, 29, 4, 0, 0, 1) := ⟨fun h => absurd h (by decide), fun _ => (tb_2 _ (List.mem_of_getElem? (i := 24) rfl)), by decide, by decide, by decide +kernel, by decide +kernel⟩
set_option maxRecDepth 10000 in
theorem fl_153 : FLP (7, 141, 29, 5, 0, 0, 1) := ⟨fun h => absurd h (by decide), fun _ => (tb_2 _ (List.mem_of_getElem? (i := 26) rfl)), by decide, by decide, by decide +kernel, by decide +kernel⟩
set_option maxRecDepth 10000 in
theorem fl_154 : FLP (7, 144, 29, 8, 2, 0, 1) := ⟨fun h => absurd h (by decide), fun _ => (tb_2 _ (List.mem_of_getElem? (i := 35) rfl)), by decide, by decide, by decide +kernel, by decide +kernel⟩
set_option maxRecDepth 10000 in
theorem fl_155 : FLP (7, 158, 24, 3, 0, 0, 0) := ⟨fun _ => (tb_2 _ (List.mem_of_getElem? (i := 106) rfl)), fun h => absurd h (by decide), by decide, by decide, by decide +kernel, by decide +kernel⟩
set_option maxRecDepth 10000 in
theorem fl_156 : FLP (7, 165, 24, 4, 0, 0, 0) := ⟨fun _ => (tb_2 _ (List.mem_of_getElem? (i := 108) rfl)), fun h => absurd h (by decide), by decide, by decide, by decide +kernel, by decide +kernel⟩
set_option maxRecDepth 10000 in
theorem fl_157 : FLP (7, 168, 24, 5, 0, 0, 0) := ⟨fun _ => (tb_2 _ (List.mem_of_getElem? (i := 110) rfl)), fun h => absurd h (by decide), by decide, by decide, by decide +kernel, by decide +kernel⟩
set_option maxRecDepth 10000 in
theorem fl_158 : FLP (8, 9, 20, 0, 2, 0, 0) := ⟨fun _ => (tb_2 _ (List.mem_of_getElem? (i := 141) rfl)), fun h => absurd h (by decide), by decide, by decide, by decide +kernel, by decide +kernel⟩
set_option maxRecDepth 10000 in
theorem fl_159 : FLP (8, 15, 29, 0, 2, 0, 1) := ⟨fun h => absurd h (by decide), fun _ => (tb_2 _ (List.mem_of_getElem? (i := 14) rfl)), by decide, by decide, by decide +kernel, by decide +kernel⟩
set_option maxRecDepth 10000 in
theorem fl_160 : FLP (8, 30, 29, 9, 2, 0, 1) := ⟨fun h => absurd h (by decide), fun _ => (tb_2 _ (List.mem_of_getElem? (i := 38) rfl)), by decide, by decide, by decide +kernel, by decide +kernel⟩
set_option maxRecDepth 10000 in
theorem fl_161 : FLP (8, 37, 20, 1, 0, 0, 0) := ⟨fun _ => (tb_2 _ (List.mem_of_getElem? (i := 142) rfl)), fun h => absurd h (by decide), by decide, by decide, by decide +kernel, by decide +kernel⟩
set_option maxRecDepth 10000 in
theorem fl_162 : FLP (8, 41, 20, 3, 0, 0, 0) := ⟨fun _ => (tb_2 _ (List.mem_of_getElem? (i := 146) rfl)), fun h => absurd h (by decide), by decide, by decide, by decide +kernel, by decide +kernel⟩
set_option maxRecDepth 10000 in
theorem fl_163 : FLP (8, 44, 20, 2, 0, 0, 0) := ⟨fun _ => (tb_2 _ (List.mem_of_getElem? (i := 144) rfl)), fun h => absurd h (by decide), by decide, by decide, by decide +kernel, by decide +kernel⟩
set_option maxRecDepth 10000 in
theorem fl_164 : FLP (9, 9, 23, 0, 2, 0, 0) := ⟨fun _ => (tb_2 _ (List.mem_of_getElem? (i := 164) rfl)), fun h => absurd h (by decide), by decide, by decide, by decide +kernel, by decide +kernel⟩
set_option maxRecDepth 10000 in
theorem fl_165 : FLP (9, 17, 23, 1, 2, 0, 0) := ⟨fun _ => (tb_2 _ (List.mem_of_getElem? (i := 165) rfl)), fun h => absurd h (by decide), by decide, by decide, by decide +kernel, by decide +kernel⟩
set_option maxRecDepth 10000 in
theorem fl_166 : FLP (9, 20, 23, 2, 2, 0, 0) := ⟨fun _ => (tb_2 _ (List.mem_of_getElem? (i := 166) rfl)), fun h => absurd h (by decide), by decide, by decide, by decide +kernel, by decide +kernel⟩
set_option maxRecDepth 10000 in
theorem fl_167 : FLP (9, 23, 29, 0, 2, 0, 1) := ⟨fun h => absurd h (by decide), fun _ => (tb_2 _ (List.mem_of_getElem? (i := 13) rfl)), by decide, by decide, by decide +kernel, by decide +kernel⟩
set_option maxRecDepth 10000 in
theorem fl_168 : FLP (9, 29, 21, 11, 0, 0, 1) := ⟨fun h => absurd h (by decide), fun _ => (tb_1 _ (List.mem_of_getElem? (i := 139) rfl)), by decide, by decide, by decide +kernel, by decide +kernel⟩
set_option maxRecDepth 10000 in
theorem fl_169 : FLP (9, 43, 23, 3, 0, 0, 0) := ⟨fun _ => (tb_2 _ (List.mem_of_getElem? (i := 168) rfl)), fun h => absurd h (by decide), by decide, by decide, by decide +kernel, by decide +kernel⟩
set_option maxRecDepth 10000 in
theorem fl_170 : FLP (9, 49, 21, 4, 0, 0, 1) := ⟨fun h => absurd h (by decide), fun _ => (tb_1 _ (List.mem_of_getElem? (i := 120) rfl)), by decide, by decide, by decide +kernel, by decide +kernel⟩
set_option maxRecDepth 10000 in
theorem fl_171 : FLP (9, 52, 29, 9, 2, 0, 1) := ⟨fun h => absurd h (by decide), fun _ => (tb_2 _ (List.mem_of_getElem? (i := 39) rfl)), by decide, by decide, by decide +kernel, by decide +kernel⟩
set_option maxRecDepth 10000 in
theorem fl_172 : FLP (9, 59, 21, 13, 2, 0, 1) := ⟨fun h => absurd h (by decide), fun _ => (tb_1 _ (List.mem_of_getElem? (i := 150) rfl)), by decide, by decide, by decide +kernel, by decide +kernel⟩
set_option maxRecDepth 10000 in
theorem fl_173 : FLP (10, 9, 28, 0, 2, 0, 0) := ⟨fun _ => (tb_2 _ (List.mem_of_getElem? (i := 185) rfl)), fun h => absurd h (by decide), by decide, by decide, by decide +kernel, by decide +kernel⟩
set_option maxRecDepth 10000 in
theorem fl_174 : FLP (10, 15, 28, 1, 2, 0, 0) := ⟨fun _ => (tb_2 _ (List.mem_of_getElem? (i := 186) rfl)), fun h => absurd h (by decide), by decide, by decide, by decide +kernel, by decide +kernel⟩
set_option maxRecDepth 10000 in
theorem fl_175 : FLP (10, 18, 28, 3, 0, 0, 0) := ⟨fun _ => (tb_2 _ (List.mem_of_getElem? (i := 189) rfl)), fun h => absurd h (by decide), by decide, by decide, by decide +kernel, by decide +kernel⟩
set_option maxRecDepth 10000 in
theorem fl_176 : FLP (10, 22, 28, 2, 0, 0, 0) := ⟨fun _ => (tb_2 _ (List.mem_of_getElem? (i := 187) rfl)), fun h => absurd h (by decide), by decide, by decide, by decide +kernel, by decide +kernel⟩
set_option maxRecDepth 10000 in
theorem fl_177 : FLP (10, 25, 28, 4, 0, 0, 0) := ⟨fun _ => (tb_2 _ (List.mem_of_getElem? (i := 191) rfl)), fun h => absurd h (by decide), by decide, by decide, by decide +kernel, by decide +kernel⟩
set_option maxRecDepth 10000 in
theorem fl_178 : FLP (10, 28, 28, 5, 0, 0, 0) := ⟨fun _ => (tb_2 _ (List.mem_of_getElem? (i := 192) rfl)), fun h => absurd h (by decide), by decide, by decide, by decide +kernel, by decide +kernel⟩
set_option maxRecDepth 10000 in
theorem fl_179 : FLP (11, 11, 26, 0, 2, 0, 0) := ⟨fun _ => (tb_2 _ (List.mem_of_getElem? (i := 83) rfl)), fun h => absurd h (by decide), by decide, by decide, by decide +kernel, by decide +kernel⟩
set_option maxRecDepth 10000 in
theorem fl_180 : FLP (11, 20, 26, 2, 0, 0, 0) := ⟨fun _ => (tb_2 _ (List.mem_of_getElem? (i := 85) rfl)), fun h => absurd h (by decide), by decide, by decide, by decide +kernel, by decide +kernel⟩
set_option maxRecDepth 10000 in
theorem fl_181 : FLP (11, 24, 26, 1, 0, 0, 0) := ⟨fun _ => (tb_2 _ (List.mem_of_getElem? (i := 84) rfl)), fun h => absurd h (by decide), by decide, by decide, by decide +kernel, by decide +kernel⟩
set_option maxRecDepth 10000 in
theorem fl_182 : FLP (12, 7, 31, 1, 2, 0, 0) := ⟨fun _ => (tb_6 _ (List.mem_of_getElem? (i := 41) rfl)), fun h => absurd h (by decide), by decide, by decide, by decide +kernel, by decide +kernel⟩
set_option maxRecDepth 10000 in
theorem fl_183 : FLP (12, 13, 31, 3, 2, 0, 0) := ⟨fun _ => (tb_6 _ (List.mem_of_getElem? (i := 43) rfl)), fun h => absurd h (by decide), by decide, by decide, by decide +kernel, by decide +kernel⟩
set_option maxRecDepth 10000 in
theorem fl_184 : FLP (12, 16, 31, 4, 2, 0, 0) := ⟨fun _ => (tb_6 _ (List.mem_of_getElem? (i := 44) rfl)), fun h => absurd h (by decide), by decide, by decide, by decide +kernel, by decide +kernel⟩
set_option maxRecDepth 10000 in
theorem fl_185 : FLP (12, 19, 31, 5, 2, 0, 0) := ⟨fun _ => (tb_6 _ (List.mem_of_getElem? (i := 45) rfl)), fun h => absurd h (by decide), by decide, by decide, by decide +kernel, by decide +kernel⟩
set_option maxRecDepth 10000 in
theorem fl_186 : FLP (12, 22, 31, 6, 2, 0, 0) := ⟨fun _ => (tb_6 _ (List.mem_of_getElem? (i := 46) rfl)), fun h => absurd h (by decide), by decide, by decide, by decide +kernel, by decide +kernel⟩
set_option maxRecDepth 10000 in
theorem fl_187 : FLP (12, 25, 31, 7, 2, 0, 0) := ⟨fun _ => (tb_6 _ (List.mem_of_getElem? (i := 47) rfl)), fun h => absurd h (by decide), by decide, by decide, by decide +kernel, by decide +kernel⟩
set_option maxRecDepth 10000 in
theorem fl_188 : FLP (12, 28, 31, 8, 2, 0, 0) := ⟨fun _ => (tb_6 _ (List.mem_of_getElem? (i := 48) rfl)), fun h => absurd h (by decide), by decide, by decide, by decide +kernel, by decide +kernel⟩
set_option maxRecDepth 10000 in
theorem fl_189 : FLP (12, 31, 31, 9, 2, 0, 0) := ⟨fun _ => (tb_6 _ (List.mem_of_getElem? (i := 49) rfl)), fun h => absurd h (by decide), by decide, by decide, by decide +kernel, by decide +kernel⟩
set_option maxRecDepth 10000 in
theorem fl_190 : FLP (12, 34, 31, 10, 2, 0, 0) := ⟨fun _ => (tb_6 _ (List.mem_of_getElem? (i := 50) rfl)), fun h => absurd h (by decide), by decide, by decide, by decide +kernel, by decide +kernel⟩
set_option maxRecDepth 10000 in
theorem fl_191 : FLP (12, 37, 31, 11, 2, 0, 0) := ⟨fun _ => (tb_6 _ (List.mem_of_getElem? (i := 51) rfl)), fun h => absurd h (by decide), by decide, by decide, by decide +kernel, by decide +kernel⟩
set_option maxRecDepth 10000 in
theorem fl_192 : FLP (12, 40, 31, 12, 2, 0, 0) := ⟨fun _ => (tb_6 _ (List.mem_of_getElem? (i := 52) rfl)), fun h => absurd h (by decide), by decide, by decide, by decide +kernel, by decide +kernel⟩
set_option maxRecDepth 10000 in
theorem fl_193 : FLP (12, 43, 31, 13, 2, 0, 0) := ⟨fun _ => (tb_6 _ (List.mem_of_getElem? (i := 53) rfl)), fun h => absurd h (by decide), by decide, by decide, by decide +kernel, by decide +kernel⟩
set_option maxRecDepth 10000 in
theorem fl_194 : FLP (12, 46, 31, 14, 2, 0, 0) := ⟨fun _ => (tb_6 _ (List.mem_of_getElem? (i := 54) rfl)), fun h => absurd h (by decide), by decide, by decide, by decide +kernel, by decide +kernel⟩
set_option maxRecDepth 10000 in
theorem fl_195 : FLP (12, 49, 31, 15, 2, 0, 0) := ⟨fun _ => (tb_6 _ (List.mem_of_getElem? (i := 55) rfl)), fun h => absurd h (by decide), by decide, by decide, by decide +kernel, by decide +kernel⟩
set_option maxRecDepth 10000 in
theorem fl_196 : FLP (12, 52, 31, 16, 2, 0, 0) := ⟨fun _ => (tb_6 _ (List.mem_of_getElem? (i := 56) rfl)), fun h => absurd h (by decide), by decide, by decide, by decide +kernel, by decide +kernel⟩
set_option maxRecDepth 10000 in
theorem fl_197 : FLP (12, 55, 31, 17, 2, 0, 0) := ⟨fun _ => (tb_6 _ (List.mem_of_getElem? (i := 57) rfl)), fun h => absurd h (by decide), by decide, by decide, by decide +kernel, by decide +kernel⟩
set_option maxRecDepth 10000 in
theorem fl_198 : FLP (12, 58, 31, 18, 2, 0, 0) := ⟨fun _ => (tb_6 _ (List.mem_of_getElem? (i := 58) rfl)), fun h => absurd h (by decide), by decide, by decide, by decide +kernel, by decide +kernel⟩
set_option maxRecDepth 10000 in
theorem fl_199 : FLP (12, 61, 31, 19, 2, 0, 0) := ⟨fun _ => (tb_6 _ (List.mem_of_getElem? (i := 59) rfl)), fun h => absurd h (by decide), by decide, by decide, by decide +kernel, by decide +kernel⟩
set_option maxRecDepth 10000 in
theorem fl_200 : FLP (12, 64, 31, 20, 2, 0, 0) := ⟨fun _ => (tb_6 _ (List.mem_of_getElem? (i := 60) rfl)), fun h => absurd h (by decide), by decide, by decide, by decide +kernel, by decide +kernel⟩
set_option maxRecDepth 10000 in
theorem fl_201 : FLP (12, 67, 31, 21, 2, 0, 0) := ⟨fun _ => (tb_6 _ (List.mem_of_getElem? (i := 61) rfl)), fun h => absurd h (by decide), by decide, by decide, by decide +kernel, by decide +kernel⟩
set_option maxRecDepth 10000 in
theorem fl_202 : FLP (12, 70, 31, 22, 2, 0, 0) := ⟨fun _ => (tb_6 _ (List.mem_of_getElem? (i := 62) rfl)), fun h => absurd h (by decide), by decide, by decide, by decide +kernel, by decide +kernel⟩
set_option maxRecDepth 10000 in
theorem fl_203 : FLP (12, 73, 31, 33, 0, 0, 0) := ⟨fun _ => (tb_6 _ (List.mem_of_getElem? (i := 73) rfl)), fun h => absurd h (by decide), by decide, by decide, by decide +kernel, by decide +kernel⟩
set_option maxRecDepth 10000 in
theorem fl_204 : FLP (12, 77, 31, 36, 2, 0, 0) := ⟨fun _ => (tb_6 _ (List.mem_of_getElem? (i := 76) rfl)), fun h => absurd h (by decide), by decide, by decide, by decide +kernel, by decide +kernel⟩
set_option maxRecDepth 10000 in
theorem fl_205 : FLP (12, 80, 31, 37, 2, 0, 0) := ⟨fun _ => (tb_6 _ (List.mem_of_getElem? (i := 77) rfl)), fun h => absurd h (by decide), by decide, by decide, by decide +kernel, by decide +kernel⟩
set_option maxRecDepth 10000 in
theorem fl_206 : FLP (12, 83, 31, 38, 2, 0, 0) := ⟨fun _ => (tb_6 _ (List.mem_of_getElem? (i := 78) rfl)), fun h => absurd h (by decide), by decide, by decide, by decide +kernel, by decide +kernel⟩
set_option maxRecDepth 10000 in
theorem fl_207 : FLP (12, 86, 31, 39, 2, 0, 0) := ⟨fun _ => (tb_6 _ (List.mem_of_getElem? (i := 79) rfl)), fun h => absurd h (by decide), by decide, by decide, by decide +kernel, by decide +kernel⟩
set_option maxRecDepth 10000 in
theorem fl_208 : FLP (12, 89, 31, 40, 2, 0, 0) := ⟨fun _ => (tb_6 _ (List.mem_of_getElem? (i := 80) rfl)), fun h => absurd h (by decide), by decide, by decide, by decide +kernel, by decide +kernel⟩
set_option maxRecDepth 10000 in
theorem fl_209 : FLP (12, 92, 31, 41, 2, 0, 0) := ⟨fun _ => (tb_6 _ (List.mem_of_getElem? (i := 81) rfl)), fun h => absurd h (by decide), by decide, by decide, by decide +kernel, by decide +kernel⟩
set_option maxRecDepth 10000 in
theorem fl_210 : FLP (12, 95, 31, 42, 2, 0, 0) := ⟨fun _ => (tb_6 _ (List.mem_of_getElem? (i := 82) rfl)), fun h => absurd h (by decide), by decide, by decide, by decide +kernel, by decide +kernel⟩
set_option maxRecDepth 10000 in
theorem fl_211 : FLP (12, 98, 31, 43, 2, 0, 0) := ⟨fun _ => (tb_6 _ (List.mem_of_getElem? (i := 83) rfl)), fun h => absurd h (by decide), by decide, by decide, by decide +kernel, by decide +kernel⟩
set_option maxRecDepth 10000 in
theorem fl_212 : FLP (12, 101, 31, 44, 2, 0, 0) := ⟨fun _ => (tb_6 _ (List.mem_of_getElem? (i := 84) rfl)), fun h => absurd h (by decide), by decide, by decide, by decide +kernel, by decide +kernel⟩
set_option maxRecDepth 10000 in
theorem fl_213 : FLP (12, 104, 31, 45, 2, 0, 0) := ⟨fun _ => (tb_6 _ (List.mem_of_getElem? (i := 85) rfl)), fun h => absurd h (by decide), by decide, by decide, by decide +kernel, by decide +kernel⟩
set_option maxRecDepth 10000 in
theorem fl_214 : FLP (12, 107, 31, 46, 2, 0, 0) := ⟨fun _ => (tb_6 _ (List.mem_of_getElem? (i := 86) rfl)), fun h => absurd h (by decide), by decide, by decide, by decide +kernel, by decide +kernel⟩
set_option maxRecDepth 10000 in
theorem fl_215 : FLP (12, 110, 31, 47, 2, 0, 0) := ⟨fun _ => (tb_6 _ (List.mem_of_getElem? (i := 87) rfl)), fun h => absurd h (by decide), by decide, by decide, by decide +kernel, by decide +kernel⟩
set_option maxRecDepth 10000 in
theorem fl_216 : FLP (12, 113, 31, 48, 2, 0, 0) := ⟨fun _ => (tb_6 _ (List.mem_of_getElem? (i := 88) rfl)), fun h => absurd h (by decide), by decide, by decide, by decide +kernel, by decide +kernel⟩
set_option maxRecDepth 10000 in
theorem fl_217 : FLP (12, 116, 31, 49, 2, 0, 0) := ⟨fun _ => (tb_6 _ (List.mem_of_getElem? (i := 89) rfl)), fun h => absurd h (by decide), by decide, by decide, by decide +kernel, by decide +kernel⟩
set_option maxRecDepth 10000 in
theorem fl_218 : FLP (12, 119, 31, 50, 2, 0, 0) := ⟨fun _ => (tb_6 _ (List.mem_of_getElem? (i := 90) rfl)), fun h => absurd h (by decide), by decide, by decide, by decide +kernel, by decide +kernel⟩
set_option maxRecDepth 10000 in
theorem fl_219 : FLP (12, 122, 31, 53, 0, 0, 0) := ⟨fun _ => (tb_6 _ (List.mem_of_getElem? (i := 93) rfl)), fun h => absurd h (by decide), by decide, by decide, by decide +kernel, by decide +kernel⟩
set_option maxRecDepth 10000 in
theorem fl_220 : FLP (12, 125, 31, 54, 0, 0, 0) := ⟨fun _ => (tb_6 _ (List.mem_of_getElem? (i := 94) rfl)), fun h => absurd h (by decide), by decide, by decide, by decide +kernel, by decide +kernel⟩
set_option maxRecDepth 10000 in
theorem fl_221 : FLP (12, 128, 31, 55, 2, 0, 0) := ⟨fun _ => (tb_6 _ (List.mem_of_getElem? (i := 95) rfl)), fun h => absurd h (by decide), by decide, by decide, by decide +kernel, by decide +kernel⟩
set_option maxRecDepth 10000 in
theorem fl_222 : FLP (12, 132, 31, 56, 2, 0, 0) := ⟨fun _ => (tb_6 _ (List.mem_of_getElem? (i := 96) rfl)), fun h => absurd h (by decide), by decide, by decide, by decide +kernel, by decide +kernel⟩
set_option maxRecDepth 10000 in
theorem fl_223 : FLP (12, 135, 31, 64, 2, 0, 0) := ⟨fun _ => (tb_6 _ (List.mem_of_getElem? (i := 104) rfl)), fun h => absurd h (by decide), by decide, by decide, by decide +kernel, by decide +kernel⟩
set_option maxRecDepth 10000 in
theorem fl_224 : FLP (12, 138, 31, 65, 2, 0, 0) := ⟨fun _ => (tb_6 _ (List.mem_of_getElem? (i := 105) rfl)), fun h => absurd h (by decide), by decide, by decide, by decide +kernel, by decide +kernel⟩
set_option maxRecDepth 10000 in
theorem fl_225 : FLP (12, 141, 31, 68, 0, 0, 0) := ⟨fun _ => (tb_6 _ (List.mem_of_getElem? (i := 108) rfl)), fun h => absurd h (by decide), by decide, by decide, by decide +kernel, by decide +kernel⟩
set_option maxRecDepth 10000 in
theorem fl_226 : FLP (12, 144, 31, 69, 2, 0, 0) := ⟨fun _ => (tb_6 _ (List.mem_of_getElem? (i := 109) rfl)), fun h => absurd h (by decide), by decide, by decide, by decide +kernel, by decide +kernel⟩
set_option maxRecDepth 10000 in
theorem fl_227 : FLP (12, 147, 31, 70, 2, 0, 0) := ⟨fun _ => (tb_6 _ (List.mem_of_getElem? (i := 110) rfl)), fun h => absurd h (by decide), by decide, by decide, by decide +kernel, by decide +kernel⟩
set_option maxRecDepth 10000 in
theorem fl_228 : FLP (12, 151, 31, 71, 2, 0, 0) := ⟨fun _ => (tb_6 _ (List.mem_of_getElem? (i := 111) rfl)), fun h => absurd h (by decide), by decide, by decide, by decide +kernel, by decide +kernel⟩
set_option maxRecDepth 10000 in
theorem fl_229 : FLP (12, 154, 31, 72, 2, 0, 0) := ⟨fun _ => (tb_6 _ (List.mem_of_getElem? (i := 112) rfl)), fun h => absurd h (by decide), by decide, by decide, by decide +kernel, by decide +kernel⟩
set_option maxRecDepth 10000 in
theorem fl_230 : FLP (12, 160, 31, 0, 0, 0, 0) := ⟨fun _ => (tb_6 _ (List.mem_of_getElem? (i := 40) rfl)), fun h => absurd h (by decide), by decide, by decide, by decide +kernel, by decide +kernel⟩
set_option maxRecDepth 10000 in
theorem fl_231 : FLP (12, 163, 31, 2, 0, 0, 0) := ⟨fun _ => (tb_6 _ (List.mem_of_getElem? (i := 42) rfl)), fun h => absurd h (by decide), by decide, by decide, by decide +kernel, by decide +kernel⟩
set_option maxRecDepth 10000 in
theorem fl_232 : FLP (12, 166, 31, 26, 0, 0, 0) := ⟨fun _ => (tb_6 _ (List.mem_of_getElem? (i := 66) rfl)), fun h => absurd h (by decide), by decide, by decide, by decide +kernel, by decide +kernel⟩
set_option maxRecDepth 10000 in
theorem fl_233 : FLP (12, 169, 31, 25, 0, 0, 0) := ⟨fun _ => (tb_6 _ (List.mem_of_getElem? (i := 65) rfl)), fun h => absurd h (by decide), by decide, by decide, by decide +kernel, by decide +kernel⟩
set_option maxRecDepth 10000 in
theorem fl_234 : FLP (12, 176, 31, 27, 0, 0, 0) := ⟨fun _ => (tb_6 _ (List.mem_of_getElem? (i := 67) rfl)), fun h => absurd h (by decide), by decide, by decide, by decide +kernel, by decide +kernel⟩
set_option maxRecDepth 10000 in
theorem fl_235 : FLP (12, 179, 31, 28, 0, 0, 0) := ⟨fun _ => (tb_6 _ (List.mem_of_getElem? (i := 68) rfl)), fun h => absurd h (by decide), by decide, by decide, by decide +kernel, by decide +kernel⟩
set_option maxRecDepth 10000 in
theorem fl_236 : FLP (12, 189, 31, 29, 0, 0, 0) := ⟨fun _ => (tb_6 _ (List.mem_of_getElem? (i := 69) rfl)), fun h => absurd h (by decide), by decide, by decide, by decide +kernel, by decide +kernel⟩
set_option maxRecDepth 10000 in
theorem fl_237 : FLP (12, 213, 31, 30, 0, 0, 0) := ⟨fun _ => (tb_6 _ (List.mem_of_getElem? (i := 70) rfl)), fun h => absurd h (by decide), by decide, by decide, by decide +kernel, by decide +kernel⟩
set_option maxRecDepth 10000 in
theorem fl_238 : FLP (12, 216, 31, 31, 0, 0, 0) := ⟨fun _ => (tb_6 _ (List.mem_of_getElem? (i := 71) rfl)), fun h => absurd h (by decide), by decide, by decide, by decide +kernel, by decide +kernel⟩
set_option maxRecDepth 10000 in
theorem fl_239 : FLP (12, 240, 31, 23, 0, 0, 0) := ⟨fun _ => (tb_6 _ (List.mem_of_getElem? (i := 63) rfl)), fun h => absurd h (by decide), by decide, by decide, by decide +kernel, by decide +kernel⟩
set_option maxRecDepth 10000 in
theorem fl_240 : FLP (12, 274, 31, 24, 0, 0, 0) := ⟨fun _ => (tb_6 _ (List.mem_of_getElem? (i := 64) rfl)), fun h => absurd h (by decide), by decide, by decide, by decide +kernel, by decide +kernel⟩
set_option maxRecDepth 10000 in
theorem fl_241 : FLP (12, 289, 31, 35, 0, 0, 0) := ⟨fun _ => (tb_6 _ (List.mem_of_getElem? (i := 75) rfl)), fun h => absurd h (by decide), by decide, by decide, by decide +kernel, by decide +kernel⟩
set_option maxRecDepth 10000 in
theorem fl_242 : FLP (12, 317, 31, 34, 0, 0, 0) := ⟨fun _ => (tb_6 _ (List.mem_of_getElem? (i := 74) rfl)), fun h => absurd h (by decide), by decide, by decide, by decide +kernel, by decide +kernel⟩
set_option maxRecDepth 10000 in
theorem fl_243 : FLP (12, 323, 31, 32, 0, 0, 0) := ⟨fun _ => (tb_6 _ (List.mem_of_getElem? (i := 72) rfl)), fun h => absurd h (by decide), by decide, by decide, by decide +kernel, by decide +kernel⟩
set_option maxRecDepth 10000 in
theorem fl_244 : FLP (12, 330, 31, 67, 0, 0, 0) := ⟨fun _ => (tb_6 _ (List.mem_of_getElem? (i := 107) rfl)), fun h => absurd h (by decide), by decide, by decide, by decide +kernel, by decide +kernel⟩
set_option maxRecDepth 10000 in
theorem fl_245 : FLP (12, 333, 31, 51, 0, 1, 0) := ⟨fun _ => (tb_6 _ (List.mem_of_getElem? (i := 91) rfl)), fun h => absurd h (by decide), by decide, by decide, by decide +kernel, by decide +kernel⟩
set_option maxRecDepth 10000 in
theorem fl_246 : FLP (12, 337, 31, 52, 0, 0, 0) := ⟨fun _ => (tb_6 _ (List.mem_of_getElem? (i := 92) rfl)), fun h => absurd h (by decide), by decide, by decide, by decide +kernel, by decide +kernel⟩
set_option maxRecDepth 10000 in
theorem fl_247 : FLP (12, 340, 31, 57, 0, 0, 0) := ⟨fun _ => (tb_6 _ (List.mem_of_getElem? (i := 97) rfl)), fun h => absurd h (by decide), by decide, by decide, by decide +kernel, by decide +kernel⟩
set_option maxRecDepth 10000 in
theorem fl_248 : FLP (12, 449, 31, 58, 0, 0, 0) := ⟨fun _ => (tb_6 _ (List.mem_of_getElem? (i := 98) rfl)), fun h => absurd h (by decide), by decide, by decide, by decide +kernel, by decide +kernel⟩
set_option maxRecDepth 10000 in
theorem fl_249 : FLP (12, 452, 31, 59, 0, 0, 0) := ⟨fun _ => (tb_6 _ (List.mem_of_getElem? (i := 99) rfl)), fun h => absurd h (by decide), by decide, by decide, by decide +kernel, by decide +kernel⟩
set_option maxRecDepth 10000 in
theorem fl_250 : FLP (12, 455, 31, 60, 0, 0, 0) := ⟨fun _ => (tb_6 _ (List.mem_of_getElem? (i := 100) rfl)), fun h => absurd h (by decide), by decide, by decide, by decide +kernel, by decide +kernel⟩
set_option maxRecDepth 10000 in
theorem fl_251 : FLP (12, 464, 31, 63, 0, 0, 0) := ⟨fun _ => (tb_6 _ (List.mem_of_getElem? (i := 103) rfl)), fun h => absurd h (by decide), by decide, by decide, by decide +kernel, by decide +kernel⟩
set_option maxRecDepth 10000 in
theorem fl_252 : FLP (12, 471, 31, 61, 0, 0, 0) := ⟨fun _ => (tb_6 _ (List.mem_of_getElem? (i := 101) rfl)), fun h => absurd h (by decide), by decide, by decide, by decide +kernel, by decide +kernel⟩
set_option maxRecDepth 10000 in
theorem fl_253 : FLP (12, 474, 31, 62, 0, 0, 0) := ⟨fun _ => (tb_6 _ (List.mem_of_getElem? (i := 102) rfl)), fun h => absurd h (by decide), by decide, by decide, by decide +kernel, by decide +kernel⟩
set_option maxRecDepth 10000 in
theorem fl_254 : FLP (12, 489, 31, 66, 0, 0, 0) := ⟨fun _ => (tb_6 _ (List.mem_of_getElem? (i := 106) rfl)), fun h => absurd h (by decide), by decide, by decide, by decide +kernel, by decide +kernel⟩
set_option maxRecDepth 10000 in
theorem fl_255 : FLP (13, 7, 32, 3, 0, 0, 0) := ⟨fun _ => (tb_8 _ (List.mem_of_getElem? (i := 224) rfl)), fun h => absurd h (by decide), by decide, by decide, by decide +kernel, by decide +kernel⟩
set_option maxRecDepth 10000 in
theorem fl_256 : FLP (15, 9, 33, 0, 2, 0, 0) := ⟨fun _ => (tb_8 _ (List.mem_of_getElem? (i := 222) rfl)), fun h => absurd h (by decide), by decide, by decide, by decide +kernel, by decide +kernel⟩
set_option maxRecDepth 10000 in
theorem fl_257 : FLP (15, 15, 33, 1, 0, 0, 0) := ⟨fun _ => (tb_8 _ (List.mem_of_getElem? (i := 223) rfl)), fun h => absurd h (by decide), by decide, by decide, by decide +kernel, by decide +kernel⟩
def FL : List (Nat × Nat × Nat × Nat × Nat × Nat × Nat) := [(1, 11, 30, 0, 2, 0, 0), (1, 18, 30, 2, 2, 0, 0), (1, 25, 30, 3, 2, 0, 0), (1, 29, 30, 4, 2, 0, 0), (1, 37, 30, 5, 2, 0, 0), (1, 41, 30, 6, 2, 0, 0), (1, 44, 30, 7, 2, 0, 0), (1, 50, 30, 9, 2, 0, 0), (1, 57, 30, 10, 2, 0, 0), (1, 63, 30, 11, 2, 0, 0), (1, 69, 30, 12, 2, 0, 0), (1, 76, 30, 13, 2, 0, 0), (1, 83, 30, 14, 2, 0, 0), (1, 87, 30, 1, 0, 0, 0), (1, 105, 30, 8, 0, 1, 0), (1, 110, 25, 6, 0, 0, 1), (1, 113, 25, 7, 0, 0, 1), (1, 116, 25, 8, 0, 0, 1), (1, 137, 29, 6, 2, 0, 1), (1, 150, 21, 9, 2, 0, 1), (1, 153, 21, 10, 2, 0, 1), (1, 164, 21, 12, 2, 0, 1), (1, 167, 21, 13, 2, 0, 1), (1, 170, 21, 14, 2, 0, 1), (1, 173, 29, 7, 2, 0, 1), (1, 176, 29, 8, 2, 0, 1), (1, 185, 29, 9, 2, 0, 1), (1, 194, 29, 1, 0, 0, 1), (1, 201, 24, 0, 0, 0, 1), (1, 204, 24, 1, 0, 0, 1), (1, 207, 24, 2, 0, 0, 1), (1, 229, 24, 3, 0, 0, 1), (1, 232, 24, 4, 0, 0, 1), (1, 235, 24, 5, 0, 0, 1), (1, 244, 20, 1, 0, 0, 1), (1, 247, 20, 2, 0, 0, 1), (1, 250, 20, 3, 0, 0, 1), (1, 266, 23, 2, 2, 0, 1), (1, 269, 23, 3, 0, 0, 1), (1, 272, 21, 11, 0, 0, 1), (1, 278, 29, 5, 0, 0, 1), (1, 295, 28, 2, 0, 0, 1), (1, 298, 28, 3, 0, 0, 1), (1, 304, 21, 4, 0, 0, 1), (1, 310, 21, 0, 0, 0, 1), (1, 313, 21, 15, 0, 0, 1), (1, 322, 26, 2, 0, 0, 1), (1, 323, 29, 2, 0, 0, 1), (2, 12, 25, 0, 2, 0, 0), (2, 21, 25, 1, 2, 0, 0), (2, 27, 25, 2, 2, 0, 0), (2, 31, 25, 8, 0, 0, 0), (2, 38, 25, 5, 0, 0, 0), (2, 41, 25, 6, 0, 0, 0), (2, 44, 25, 7, 0, 0, 0), (2, 51, 27, 3, 2, 0, 1), (2, 103, 27, 4, 0, 0, 1), (2, 106, 21, 0, 0, 0, 1), (2, 109, 27, 6, 0, 0, 1), (2, 119, 27, 5, 0, 0, 1), (2, 130, 21, 4, 0, 0, 1), (2, 148, 21, 11, 0, 0, 1), (2, 170, 21, 15, 0, 0, 1), (2, 176, 21, 8, 0, 0, 1), (2, 179, 21, 9, 2, 0, 1), (2, 182, 21, 10, 2, 0, 1), (2, 185, 21, 17, 0, 1, 1), (2, 189, 21, 18, 2, 0, 1), (2, 193, 21, 19, 2, 0, 1), (2, 197, 22, 3, 0, 0, 1), (2, 206, 25, 3, 0, 0, 0), (2, 209, 25, 4, 0, 0, 0), (2, 221, 32, 1, 0, 0, 1), (2, 249, 32, 2, 0, 0, 1), (3, 7, 27, 0, 2, 0, 0), (3, 19, 27, 3, 2, 0, 0), (3, 31, 27, 1, 0, 0, 0), (3, 35, 27, 2, 0, 0, 0), (3, 41, 27, 4, 0, 0, 0), (3, 53, 27, 6, 0, 0, 0), (3, 60, 32, 0, 2, 0, 1), (3, 86, 27, 5, 0, 0, 0), (4, 9, 21, 1, 2, 0, 0), (4, 15, 21, 2, 2, 0, 0), (4, 18, 21, 3, 2, 0, 0), (4, 21, 21, 5, 2, 0, 0), (4, 24, 21, 6, 2, 0, 0), (4, 27, 21, 7, 2, 0, 0), (4, 30, 21, 9, 2, 0, 0), (4, 33, 21, 10, 2, 0, 0), (4, 36, 21, 12, 2, 0, 0), (4, 39, 21, 13, 2, 0, 0), (4, 42, 21, 14, 2, 0, 0), (4, 47, 21, 16, 2, 0, 0), (4, 50, 21, 18, 2, 0, 0), (4, 57, 21, 19, 2, 0, 0), (4, 61, 21, 0, 0, 0, 0), (4, 65, 21, 4, 0, 0, 0), (4, 68, 21, 8, 0, 0, 0), (4, 71, 21, 11, 0, 0, 0), (4, 74, 21, 15, 0, 0, 0), (4, 77, 21, 17, 0, 1, 0), (4, 81, 22, 3, 0, 0, 1), (5, 11, 22, 0, 2, 0, 0), (5, 17, 22, 1, 2, 0, 0), (5, 21, 22, 2, 2, 0, 0), (5, 25, 22, 3, 0, 0, 0), (5, 31, 32, 1, 0, 0, 1), (5, 34, 32, 2, 0, 0, 1), (6, 9, 29, 6, 2, 0, 0), (6, 15, 29, 7, 2, 0, 0), (6, 18, 29, 8, 2, 0, 0), (6, 21, 29, 9, 2, 0, 0), (6, 24, 29, 11, 2, 0, 0), (6, 27, 29, 12, 2, 0, 0), (6, 30, 29, 13, 2, 0, 0), (6, 33, 29, 0, 2, 0, 0), (6, 37, 29, 1, 0, 0, 0), (6, 41, 29, 2, 0, 0, 0), (6, 44, 29, 3, 0, 0, 0), (6, 47, 29, 4, 0, 0, 0), (6, 50, 29, 5, 0, 0, 0), (6, 53, 29, 10, 0, 0, 0), (6, 56, 21, 4, 0, 0, 1), (6, 61, 21, 6, 2, 0, 1), (6, 82, 21, 12, 2, 0, 1), (6, 111, 21, 19, 2, 0, 1), (6, 115, 22, 3, 0, 0, 1), (6, 129, 21, 14, 2, 0, 1), (6, 139, 21, 11, 0, 0, 1), (6, 142, 21, 13, 2, 0, 1), (6, 149, 21, 15, 0, 0, 1), (6, 152, 21, 16, 2, 0, 1), (6, 163, 21, 10, 2, 0, 1), (7, 9, 24, 1, 0, 0, 0), (7, 15, 24, 6, 2, 0, 0), (7, 19, 24, 7, 2, 0, 0), (7, 22, 24, 8, 2, 0, 0), (7, 29, 24, 0, 0, 0, 0), (7, 32, 29, 0, 2, 0, 1), (7, 38, 29, 1, 0, 0, 1), (7, 62, 24, 2, 0, 0, 0), (7, 65, 21, 4, 0, 0, 1), (7, 74, 21, 7, 2, 0, 1), (7, 81, 29, 7, 2, 0, 1), (7, 90, 21, 9, 2, 0, 1), (7, 100, 29, 2, 0, 0, 1), (7, 103, 21, 11, 0, 0, 1), (7, 106, 21, 12, 2, 0, 1), (7, 115, 29, 6, 2, 0, 1), (7, 129, 21, 13, 2, 0, 1), (7, 132, 21, 14, 2, 0, 1), (7, 138, 29, 4, 0, 0, 1), (7, 141, 29, 5, 0, 0, 1), (7, 144, 29, 8, 2, 0, 1), (7, 158, 24, 3, 0, 0, 0), (7, 165, 24, 4, 0, 0, 0), (7, 168, 24, 5, 0, 0, 0), (8, 9, 20, 0, 2, 0, 0), (8, 15, 29, 0, 2, 0, 1), (8, 30, 29, 9, 2, 0, 1), (8, 37, 20, 1, 0, 0, 0), (8, 41, 20, 3, 0, 0, 0), (8, 44, 20, 2, 0, 0, 0), (9, 9, 23, 0, 2, 0, 0), (9, 17, 23, 1, 2, 0, 0), (9, 20, 23, 2, 2, 0, 0), (9, 23, 29, 0, 2, 0, 1), (9, 29, 21, 11, 0, 0, 1), (9, 43, 23, 3, 0, 0, 0), (9, 49, 21, 4, 0, 0, 1), (9, 52, 29, 9, 2, 0, 1), (9, 59, 21, 13, 2, 0, 1), (10, 9, 28, 0, 2, 0, 0), (10, 15, 28, 1, 2, 0, 0), (10, 18, 28, 3, 0, 0, 0), (10, 22, 28, 2, 0, 0, 0), (10, 25, 28, 4, 0, 0, 0), (10, 28, 28, 5, 0, 0, 0), (11, 11, 26, 0, 2, 0, 0), (11, 20, 26, 2, 0, 0, 0), (11, 24, 26, 1, 0, 0, 0), (12, 7, 31, 1, 2, 0, 0), (12, 13, 31, 3, 2, 0, 0), (12, 16, 31, 4, 2, 0, 0), (12, 19, 31, 5, 2, 0, 0), (12, 22, 31, 6, 2, 0, 0), (12, 25, 31, 7, 2, 0, 0), (12, 28, 31, 8, 2, 0, 0), (12, 31, 31, 9, 2, 0, 0), (12, 34, 31, 10, 2, 0, 0), (12, 37, 31, 11, 2, 0, 0), (12, 40, 31, 12, 2, 0, 0), (12, 43, 31, 13, 2, 0, 0), (12, 46, 31, 14, 2, 0, 0), (12, 49, 31, 15, 2, 0, 0), (12, 52, 31, 16, 2, 0, 0), (12, 55, 31, 17, 2, 0, 0), (12, 58, 31, 18, 2, 0, 0), (12, 61, 31, 19, 2, 0, 0), (12, 64, 31, 20, 2, 0, 0), (12, 67, 31, 21, 2, 0, 0), (12, 70, 31, 22, 2, 0, 0), (12, 73, 31, 33, 0, 0, 0), (12, 77, 31, 36, 2, 0, 0), (12, 80, 31, 37, 2, 0, 0), (12, 83, 31, 38, 2, 0, 0), (12, 86, 31, 39, 2, 0, 0), (12, 89, 31, 40, 2, 0, 0), (12, 92, 31, 41, 2, 0, 0), (12, 95, 31, 42, 2, 0, 0), (12, 98, 31, 43, 2, 0, 0), (12, 101, 31, 44, 2, 0, 0), (12, 104, 31, 45, 2, 0, 0), (12, 107, 31, 46, 2, 0, 0), (12, 110, 31, 47, 2, 0, 0), (12, 113, 31, 48, 2, 0, 0), (12, 116, 31, 49, 2, 0, 0), (12, 119, 31, 50, 2, 0, 0), (12, 122, 31, 53, 0, 0, 0), (12, 125, 31, 54, 0, 0, 0), (12, 128, 31, 55, 2, 0, 0), (12, 132, 31, 56, 2, 0, 0), (12, 135, 31, 64, 2, 0, 0), (12, 138, 31, 65, 2, 0, 0), (12, 141, 31, 68, 0, 0, 0), (12, 144, 31, 69, 2, 0, 0), (12, 147, 31, 70, 2, 0, 0), (12, 151, 31, 71, 2, 0, 0), (12, 154, 31, 72, 2, 0, 0), (12, 160, 31, 0, 0, 0, 0), (12, 163, 31, 2, 0, 0, 0), (12, 166, 31, 26, 0, 0, 0), (12, 169, 31, 25, 0, 0, 0), (12, 176, 31, 27, 0, 0, 0), (12, 179, 31, 28, 0, 0, 0), (12, 189, 31, 29, 0, 0, 0), (12, 213, 31, 30, 0, 0, 0), (12, 216, 31, 31, 0, 0, 0), (12, 240, 31, 23, 0, 0, 0), (12, 274, 31, 24, 0, 0, 0), (12, 289, 31, 35, 0, 0, 0), (12, 317, 31, 34, 0, 0, 0), (12, 323, 31, 32, 0, 0, 0), (12, 330, 31, 67, 0, 0, 0), (12, 333, 31, 51, 0, 1, 0), (12, 337, 31, 52, 0, 0, 0), (12, 340, 31, 57, 0, 0, 0), (12, 449, 31, 58, 0, 0, 0), (12, 452, 31, 59, 0, 0, 0), (12, 455, 31, 60, 0, 0, 0), (12, 464, 31, 63, 0, 0, 0), (12, 471, 31, 61, 0, 0, 0), (12, 474, 31, 62, 0, 0, 0), (12, 489, 31, 66, 0, 0, 0), (13, 7, 32, 3, 0, 0, 0), (15, 9, 33, 0, 2, 0, 0), (15, 15, 33, 1, 0, 0, 0)]
set_option maxRecDepth 10000 in
theorem FL_ok : ∀ r ∈ FL, FLP r := List.forall_mem_cons.mpr ⟨fl_0, List.forall_mem_cons.mpr ⟨fl_1, List.forall_mem_cons.mpr ⟨fl_2, List.forall_mem_cons.mpr ⟨fl_3, List.forall_mem_cons.mpr ⟨fl_4, List.forall_mem_cons.mpr ⟨fl_5, List.forall_mem_cons.mpr ⟨fl_6, List.forall_mem_cons.mpr ⟨fl_7, List.forall_mem_cons.mpr ⟨fl_8, List.forall_mem_cons.mpr ⟨fl_9, List.forall_mem_cons.mpr ⟨fl_10, List.forall_mem_cons.mpr ⟨fl_11, List.forall_mem_cons.mpr ⟨fl_12, List.forall_mem_cons.mpr ⟨fl_13, List.forall_mem_cons.mpr ⟨fl_14, List.forall_mem_cons.mpr ⟨fl_15, List.forall_mem_cons.mpr ⟨fl_16, List.forall_mem_cons.mpr ⟨fl_17, List.forall_mem_cons.mpr ⟨fl_18, List.forall_mem_cons.mpr ⟨fl_19, List.forall_mem_cons.mpr ⟨fl_20, List.forall_mem_cons.mpr ⟨fl_21, List.forall_mem_cons.mpr ⟨fl_22, List.forall_mem_cons.mpr ⟨fl_23, List.forall_mem_cons.mpr ⟨fl_24, List.forall_mem_cons.mpr ⟨fl_25, List.forall_mem_cons.mpr ⟨fl_26, List.forall_mem_cons.mpr ⟨fl_27, List.forall_mem_cons.mpr ⟨fl_28, List.forall_mem_cons.mpr ⟨fl_29, List.forall_mem_cons.mpr ⟨fl_30, List.forall_mem_cons.mpr ⟨fl_31, List.forall_mem_cons.mpr ⟨fl_32, List.forall_mem_cons.mpr ⟨fl_33, List.forall_mem_cons.mpr ⟨fl_34, List.forall_mem_cons.mpr ⟨fl_35, List.forall_mem_cons.mpr ⟨fl_36, List.forall_mem_cons.mpr ⟨fl_37, List.forall_mem_cons.mpr ⟨fl_38, List.forall_mem_cons.mpr ⟨fl_39, List.forall_mem_cons.mpr ⟨fl_40, List.forall_mem_cons.mpr ⟨fl_41, List.forall_mem_cons.mpr ⟨fl_42, List.forall_mem_cons.mpr ⟨fl_43, List.forall_mem_cons.mpr ⟨fl_44, List.forall_mem_cons.mpr ⟨fl_45, List.forall_mem_cons.mpr ⟨fl_46, List.forall_mem_cons.mpr ⟨fl_47, List.forall_mem_cons.mpr ⟨fl_48, List.forall_mem_cons.mpr ⟨fl_49, List.forall_mem_cons.mpr ⟨fl_50, List.forall_mem_cons.mpr ⟨fl_51, List.forall_mem_cons.mpr ⟨fl_52, List.forall_mem_cons.mpr ⟨fl_53, List.forall_mem_cons.mpr ⟨fl_54, List.forall_mem_cons.mpr ⟨fl_55, List.forall_mem_cons.mpr ⟨fl_56, List.forall_mem_cons.mpr ⟨fl_57, List.forall_mem_cons.mpr ⟨fl_58, List.forall_mem_cons.mpr ⟨fl_59, List.forall_mem_cons.mpr ⟨fl_60, List.forall_mem_cons.mpr ⟨fl_61, List.forall_mem_cons.mpr ⟨fl_62, List.forall_mem_cons.mpr ⟨fl_63, List.forall_mem_cons.mpr ⟨fl_64, List.forall_mem_cons.mpr ⟨fl_65, List.forall_mem_cons.mpr ⟨fl_66, List.forall_mem_cons.mpr ⟨fl_67, List.forall_mem_cons.mpr ⟨fl_68, List.forall_mem_cons.mpr ⟨fl_69, List.forall_mem_cons.mpr ⟨fl_70, List.forall_mem_cons.mpr ⟨fl_71, List.forall_mem_cons.mpr ⟨fl_72, List.forall_mem_cons.mpr ⟨fl_73, List.forall_mem_cons.mpr ⟨fl_74, List.forall_mem_cons.mpr ⟨fl_75, List.forall_mem_cons.mpr ⟨fl_76, List.forall_mem_cons.mpr ⟨fl_77, List.forall_mem_cons.mpr ⟨fl_78, List.forall_mem_cons.mpr ⟨fl_79, List.forall_mem_cons.mpr ⟨fl_80, List.forall_mem_cons.mpr ⟨fl_81, List.forall_mem_cons.mpr ⟨fl_82, List.forall_mem_cons.mpr ⟨fl_83, List.forall_mem_cons.mpr ⟨fl_84, List.forall_mem_cons.mpr ⟨fl_85, List.forall_mem_cons.mpr ⟨fl_86, List.forall_mem_cons.mpr ⟨fl_87, List.forall_mem_cons.mpr ⟨fl_88, List.forall_mem_cons.mpr ⟨fl_89, List.forall_mem_cons.mpr ⟨fl_90, List.forall_mem_cons.mpr ⟨fl_91, List.forall_mem_cons.mpr ⟨fl_92, List.forall_mem_cons.mpr ⟨fl_93, List.forall_mem_cons.mpr ⟨fl_94, List.forall_mem_cons.mpr ⟨fl_95, List.forall_mem_cons.mpr ⟨fl_96, List.forall_mem_cons.mpr ⟨fl_97, List.forall_mem_cons.mpr ⟨fl_98, List.forall_mem_cons.mpr ⟨fl_99, List.forall_mem_cons.mpr ⟨fl_100, List.forall_mem_cons.mpr ⟨fl_101, List.forall_mem_cons.mpr ⟨fl_102, List.forall_mem_cons.mpr ⟨fl_103, List.forall_mem_cons.mpr ⟨fl_104, List.forall_mem_cons.mpr ⟨fl_105, List.forall_mem_cons.mpr ⟨fl_106, List.forall_mem_cons.mpr ⟨fl_107, List.forall_mem_cons.mpr ⟨fl_108, List.forall_mem_cons.mpr ⟨fl_109, List.forall_mem_cons.mpr ⟨fl_110, List.forall_mem_cons.mpr ⟨fl_111, List.forall_mem_cons.mpr ⟨fl_112, List.forall_mem_cons.mpr ⟨fl_113, List.forall_mem_cons.mpr ⟨fl_114, List.forall_mem_cons.mpr ⟨fl_115, List.forall_mem_cons.mpr ⟨fl_116, List.forall_mem_cons.mpr ⟨fl_117, List.forall_mem_cons.mpr ⟨fl_118, List.forall_mem_cons.mpr ⟨fl_119, List.forall_mem_cons.mpr ⟨fl_120, List.forall_mem_cons.mpr ⟨fl_121, List.forall_mem_cons.mpr ⟨fl_122, List.forall_mem_cons.mpr ⟨fl_123, List.forall_mem_cons.mpr ⟨fl_124, List.forall_mem_cons.mpr ⟨fl_125, List.forall_mem_cons.mpr ⟨fl_126, List.forall_mem_cons.mpr ⟨fl_127, List.forall_mem_cons.mpr ⟨fl_128, List.forall_mem_cons.mpr ⟨fl_129, List.forall_mem_cons.mpr ⟨fl_130, List.forall_mem_cons.mpr ⟨fl_131, List.forall_mem_cons.mpr ⟨fl_132, List.forall_mem_cons.mpr ⟨fl_133, List.forall_mem_cons.mpr ⟨fl_134, List.forall_mem_cons.mpr ⟨fl_135, List.forall_mem_cons.mpr ⟨fl_136, List.forall_mem_cons.mpr ⟨fl_137, List.forall_mem_cons.mpr ⟨fl_138, List.forall_mem_cons.mpr ⟨fl_139, List.forall_mem_cons.mpr ⟨fl_140, List.forall_mem_cons.mpr ⟨fl_141, List.forall_mem_cons.mpr ⟨fl_142, List.forall_mem_cons.mpr ⟨fl_143, List.forall_mem_cons.mpr ⟨fl_144, List.forall_mem_cons.mpr ⟨fl_145, List.forall_mem_cons.mpr ⟨fl_146, List.forall_mem_cons.mpr ⟨fl_147, List.forall_mem_cons.mpr ⟨fl_148, List.forall_mem_cons.mpr ⟨fl_149, List.forall_mem_cons.mpr ⟨fl_150, List.forall_mem_cons.mpr ⟨fl_151, List.forall_mem_cons.mpr ⟨fl_152, List.forall_mem_cons.mpr ⟨fl_153, List.forall_mem_cons.mpr ⟨fl_154, List.forall_mem_cons.mpr ⟨fl_155, List.forall_mem_cons.mpr ⟨fl_156, List.forall_mem_cons.mpr ⟨fl_157, List.forall_mem_cons.mpr ⟨fl_158, List.forall_mem_cons.mpr ⟨fl_159, List.forall_mem_cons.mpr ⟨fl_160, List.forall_mem_cons.mpr ⟨fl_161, List.forall_mem_cons.mpr ⟨fl_162, List.forall_mem_cons.mpr ⟨fl_163, List.forall_mem_cons.mpr ⟨fl_164, List.forall_mem_cons.mpr ⟨fl_165, List.forall_mem_cons.mpr ⟨fl_166, List.forall_mem_cons.mpr ⟨fl_167, List.forall_mem_cons.mpr ⟨fl_168, List.forall_mem_cons.mpr ⟨fl_169, List.forall_mem_cons.mpr ⟨fl_170, List.forall_mem_cons.mpr ⟨fl_171, List.forall_mem_cons.mpr ⟨fl_172, List.forall_mem_cons.mpr ⟨fl_173, List.forall_mem_cons.mpr ⟨fl_174, List.forall_mem_cons.mpr ⟨fl_175, List.forall_mem_cons.mpr ⟨fl_176, List.forall_mem_cons.mpr ⟨fl_177, List.forall_mem_cons.mpr ⟨fl_178, List.forall_mem_cons.mpr ⟨fl_179, List.forall_mem_cons.mpr ⟨fl_180, List.forall_mem_cons.mpr ⟨fl_181, List.forall_mem_cons.mpr ⟨fl_182, List.forall_mem_cons.mpr ⟨fl_183, List.forall_mem_cons.mpr ⟨fl_184, List.forall_mem_cons.mpr ⟨fl_185, List.forall_mem_cons.mpr ⟨fl_186, List.forall_mem_cons.mpr ⟨fl_187, List.forall_mem_cons.mpr ⟨fl_188, List.forall_mem_cons.mpr ⟨fl_189, List.forall_mem_cons.mpr ⟨fl_190, List.forall_mem_cons.mpr ⟨fl_191, List.forall_mem_cons.mpr ⟨fl_192, List.forall_mem_cons.mpr ⟨fl_193, List.forall_mem_cons.mpr ⟨fl_194, List.forall_mem_cons.mpr ⟨fl_195, List.forall_mem_cons.mpr ⟨fl_196, List.forall_mem_cons.mpr ⟨fl_197, List.forall_mem_cons.mpr ⟨fl_198, List.forall_mem_cons.mpr ⟨fl_199, List.forall_mem_cons.mpr ⟨fl_200, List.forall_mem_cons.mpr ⟨fl_201, List.forall_mem_cons.mpr ⟨fl_202, List.forall_mem_cons.mpr ⟨fl_203, List.forall_mem_cons.mpr ⟨fl_204, List.forall_mem_cons.mpr ⟨fl_205, List.forall_mem_cons.mpr ⟨fl_206, List.forall_mem_cons.mpr ⟨fl_207, List.forall_mem_cons.mpr ⟨fl_208, List.forall_mem_cons.mpr ⟨fl_209, List.forall_mem_cons.mpr ⟨fl_210, List.forall_mem_cons.mpr ⟨fl_211, List.forall_mem_cons.mpr ⟨fl_212, List.forall_mem_cons.mpr ⟨fl_213, List.forall_mem_cons.mpr ⟨fl_214, List.forall_mem_cons.mpr ⟨fl_215, List.forall_mem_cons.mpr ⟨fl_216, List.forall_mem_cons.mpr ⟨fl_217, List.forall_mem_cons.mpr ⟨fl_218, List.forall_mem_cons.mpr ⟨fl_219, List.forall_mem_cons.mpr ⟨fl_220, List.forall_mem_cons.mpr ⟨fl_221, List.forall_mem_cons.mpr ⟨fl_222, List.forall_mem_cons.mpr ⟨fl_223, List.forall_mem_cons.mpr ⟨fl_224, List.forall_mem_cons.mpr ⟨fl_225, List.forall_mem_cons.mpr ⟨fl_226, List.forall_mem_cons.mpr ⟨fl_227, List.forall_mem_cons.mpr ⟨fl_228, List.forall_mem_cons.mpr ⟨fl_229, List.forall_mem_cons.mpr ⟨fl_230, List.forall_mem_cons.mpr ⟨fl_231, List.forall_mem_cons.mpr ⟨fl_232, List.forall_mem_cons.mpr ⟨fl_233, List.forall_mem_cons.mpr ⟨fl_234, List.forall_mem_cons.mpr ⟨fl_235, List.forall_mem_cons.mpr ⟨fl_236, List.forall_mem_cons.mpr ⟨fl_237, List.forall_mem_cons.mpr ⟨fl_238, List.forall_mem_cons.mpr ⟨fl_239, List.forall_mem_cons.mpr ⟨fl_240, List.forall_mem_cons.mpr ⟨fl_241, List.forall_mem_cons.mpr ⟨fl_242, List.forall_mem_cons.mpr ⟨fl_243, List.forall_mem_cons.mpr ⟨fl_244, List.forall_mem_cons.mpr ⟨fl_245, List.forall_mem_cons.mpr ⟨fl_246, List.forall_mem_cons.mpr ⟨fl_247, List.forall_mem_cons.mpr ⟨fl_248, List.forall_mem_cons.mpr ⟨fl_249, List.forall_mem_cons.mpr ⟨fl_250, List.forall_mem_cons.mpr ⟨fl_251, List.forall_mem_cons.mpr ⟨fl_252, List.forall_mem_cons.mpr ⟨fl_253, List.forall_mem_cons.mpr ⟨fl_254, List.forall_mem_cons.mpr ⟨fl_255, List.forall_mem_cons.mpr ⟨fl_256, List.forall_mem_cons.mpr ⟨fl_257, fun _ h => absurd h List.not_mem_nil⟩⟩⟩⟩⟩⟩⟩⟩⟩⟩⟩⟩⟩⟩⟩⟩⟩⟩⟩⟩⟩⟩⟩⟩⟩⟩⟩⟩⟩⟩⟩⟩⟩⟩⟩⟩⟩⟩⟩⟩⟩⟩⟩⟩⟩⟩⟩⟩⟩⟩⟩⟩⟩⟩⟩⟩⟩⟩⟩⟩⟩⟩⟩⟩⟩⟩⟩⟩⟩⟩⟩⟩⟩⟩⟩⟩⟩⟩⟩⟩⟩⟩⟩⟩⟩⟩⟩⟩⟩⟩⟩⟩⟩⟩⟩⟩⟩⟩⟩⟩⟩⟩⟩⟩⟩⟩⟩⟩⟩⟩⟩⟩⟩⟩⟩⟩⟩⟩⟩⟩⟩⟩⟩⟩⟩⟩⟩⟩⟩⟩⟩⟩⟩⟩⟩⟩⟩⟩⟩⟩⟩⟩⟩⟩⟩⟩⟩⟩⟩⟩⟩⟩⟩⟩⟩⟩⟩⟩⟩⟩⟩⟩⟩⟩⟩⟩⟩⟩⟩⟩⟩⟩⟩⟩⟩⟩⟩⟩⟩⟩⟩⟩⟩⟩⟩⟩⟩⟩⟩⟩⟩⟩⟩⟩⟩⟩⟩⟩⟩⟩⟩⟩⟩⟩⟩⟩⟩⟩⟩⟩⟩⟩⟩⟩⟩⟩⟩⟩⟩⟩⟩⟩⟩⟩⟩⟩⟩⟩⟩⟩⟩⟩⟩⟩⟩⟩⟩⟩⟩⟩⟩⟩⟩⟩⟩⟩⟩⟩⟩⟩⟩⟩⟩⟩⟩⟩⟩⟩
def CAP (r : Nat × Nat × Nat × Nat × Nat × Nat) : Prop := (r.2.2.2.2.1 = 0 → Cond.methodLink (CN r.1) r.2.1 (yN r.2.2.1) ∈ lw_tbl) ∧ (r.2.2.2.2.1 = 1 → Cond.methodLinkNest (CN r.1) r.2.1 (yN r.2.2.1) "PaidFaces" ∈ lw_tbl) ∧ r.2.2.2.2.1 ≤ 1 ∧ (r.2.2.2.1 = 0 → Cond.static (yN r.2.2.1) ∈ lw_tbl) ∧ (r.2.2.2.1 = 1 → Cond.instanceMethod (yN r.2.2.1) ∈ lw_tbl ∧ Cond.selects (yN r.2.2.1).cls (yN r.2.2.1) (yN r.2.2.1) ∈ lw_tbl) ∧ (r.2.2.2.1 = 2 → Cond.instanceMethod (yN r.2.2.1) ∈ lw_tbl ∧ (yN r.2.2.1).name = "<init>" ∧ yR r.2.2.1 = none) ∧ r.2.2.2.1 ≤ 2 ∧ MP r.2.2.1 r.2.2.2.2.2
set_option maxRecDepth 10000 in
theorem ca_0 : CAP (0, 17, 1, 2, 0, 0) := ⟨fun _ => (tb_1 _ (List.mem_of_getElem? (i := 29) rfl)), fun h => absurd h (by decide), by decide, fun h => absurd h (by decide), fun h => absurd h (by decide), fun _ => ⟨(tb_1 _ (List.mem_of_getElem? (i := 30) rfl)), by decide +kernel, by decide +kernel⟩, by decide, mp_1⟩
set_option maxRecDepth 10000 in
theorem ca_1 : CAP (0, 20, 135, 2, 0, 0) := ⟨fun _ => (tb_6 _ (List.mem_of_getElem? (i := 32) rfl)), fun h => absurd h (by decide), by decide, fun h => absurd h (by decide), fun h => absurd h (by decide), fun _ => ⟨(tb_6 _ (List.mem_of_getElem? (i := 33) rfl)), by decide +kernel, by decide +kernel⟩, by decide, mp_135⟩
set_option maxRecDepth 10000 in
theorem ca_2 : CAP (0, 21, 2, 1, 0, 5) := ⟨fun _ => (tb_3 _ (List.mem_of_getElem? (i := 12) rfl)), fun h => absurd h (by decide), by decide, fun h => absurd h (by decide), fun _ => ⟨(tb_3 _ (List.mem_of_getElem? (i := 13) rfl)), (tb_3 _ (List.mem_of_getElem? (i := 14) rfl))⟩, fun h => absurd h (by decide), by decide, mp_2⟩
set_option maxRecDepth 10000 in
theorem ca_3 : CAP (0, 25, 137, 1, 0, 5) := ⟨fun _ => (tb_7 _ (List.mem_of_getElem? (i := 24) rfl)), fun h => absurd h (by decide), by decide, fun h => absurd h (by decide), fun _ => ⟨(tb_7 _ (List.mem_of_getElem? (i := 25) rfl)), (tb_7 _ (List.mem_of_getElem? (i := 26) rfl))⟩, fun h => absurd h (by decide), by decide, mp_137⟩
set_option maxRecDepth 10000 in
theorem ca_4 : CAP (0, 26, 4, 1, 0, 1) := ⟨fun _ => (tb_3 _ (List.mem_of_getElem? (i := 20) rfl)), fun h => absurd h (by decide), by decide, fun h => absurd h (by decide), fun _ => ⟨(tb_3 _ (List.mem_of_getElem? (i := 21) rfl)), (tb_3 _ (List.mem_of_getElem? (i := 22) rfl))⟩, fun h => absurd h (by decide), by decide, mp_4⟩
set_option maxRecDepth 10000 in
theorem ca_5 : CAP (0, 30, 174, 1, 0, 1) := ⟨fun _ => (tb_7 _ (List.mem_of_getElem? (i := 28) rfl)), fun h => absurd h (by decide), by decide, fun h => absurd h (by decide), fun _ => ⟨(tb_7 _ (List.mem_of_getElem? (i := 29) rfl)), (tb_7 _ (List.mem_of_getElem? (i := 30) rfl))⟩, fun h => absurd h (by decide), by decide, mp_174⟩
set_option maxRecDepth 10000 in
theorem ca_6 : CAP (0, 31, 5, 1, 0, 1) := ⟨fun _ => (tb_4 _ (List.mem_of_getElem? (i := 63) rfl)), fun h => absurd h (by decide), by decide, fun h => absurd h (by decide), fun _ => ⟨(tb_4 _ (List.mem_of_getElem? (i := 64) rfl)), (tb_4 _ (List.mem_of_getElem? (i := 65) rfl))⟩, fun h => absurd h (by decide), by decide, mp_5⟩
set_option maxRecDepth 10000 in
theorem ca_7 : CAP (0, 34, 175, 1, 0, 1) := ⟨fun _ => (tb_7 _ (List.mem_of_getElem? (i := 175) rfl)), fun h => absurd h (by decide), by decide, fun h => absurd h (by decide), fun _ => ⟨(tb_7 _ (List.mem_of_getElem? (i := 176) rfl)), (tb_7 _ (List.mem_of_getElem? (i := 177) rfl))⟩, fun h => absurd h (by decide), by decide, mp_175⟩
set_option maxRecDepth 10000 in
theorem ca_8 : CAP (0, 35, 6, 1, 0, 2) := ⟨fun _ => (tb_4 _ (List.mem_of_getElem? (i := 67) rfl)), fun h => absurd h (by decide), by decide, fun h => absurd h (by decide), fun _ => ⟨(tb_4 _ (List.mem_of_getElem? (i := 68) rfl)), (tb_4 _ (List.mem_of_getElem? (i := 69) rfl))⟩, fun h => absurd h (by decide), by decide, mp_6⟩
set_option maxRecDepth 10000 in
theorem ca_9 : CAP (0, 38, 176, 1, 0, 2) := ⟨fun _ => (tb_7 _ (List.mem_of_getElem? (i := 179) rfl)), fun h => absurd h (by decide), by decide, fun h => absurd h (by decide), fun _ => ⟨(tb_7 _ (List.mem_of_getElem? (i := 180) rfl)), (tb_7 _ (List.mem_of_getElem? (i := 181) rfl))⟩, fun h => absurd h (by decide), by decide, mp_176⟩
set_option maxRecDepth 10000 in
theorem ca_10 : CAP (0, 44, 206, 1, 0, 2) := ⟨fun _ => (tb_7 _ (List.mem_of_getElem? (i := 183) rfl)), fun h => absurd h (by decide), by decide, fun h => absurd h (by decide), fun _ => ⟨(tb_7 _ (List.mem_of_getElem? (i := 184) rfl)), (tb_7 _ (List.mem_of_getElem? (i := 185) rfl))⟩, fun h => absurd h (by decide), by decide, mp_206⟩
set_option maxRecDepth 10000 in
theorem ca_11 : CAP (0, 45, 136, 1, 0, 0) := ⟨fun _ => (tb_7 _ (List.mem_of_getElem? (i := 20) rfl)), fun h => absurd h (by decide), by decide, fun h => absurd h (by decide), fun _ => ⟨(tb_7 _ (List.mem_of_getElem? (i := 21) rfl)), (tb_7 _ (List.mem_of_getElem? (i := 22) rfl))⟩, fun h => absurd h (by decide), by decide, mp_136⟩
set_option maxRecDepth 10000 in
theorem ca_12 : CAP (0, 49, 8, 1, 0, 2) := ⟨fun _ => (tb_4 _ (List.mem_of_getElem? (i := 73) rfl)), fun h => absurd h (by decide), by decide, fun h => absurd h (by decide), fun _ => ⟨(tb_4 _ (List.mem_of_getElem? (i := 74) rfl)), (tb_4 _ (List.mem_of_getElem? (i := 75) rfl))⟩, fun h => absurd h (by decide), by decide, mp_8⟩
set_option maxRecDepth 10000 in
theorem ca_13 : CAP (0, 52, 207, 1, 0, 2) := ⟨fun _ => (tb_7 _ (List.mem_of_getElem? (i := 211) rfl)), fun h => absurd h (by decide), by decide, fun h => absurd h (by decide), fun _ => ⟨(tb_7 _ (List.mem_of_getElem? (i := 212) rfl)), (tb_7 _ (List.mem_of_getElem? (i := 213) rfl))⟩, fun h => absurd h (by decide), by decide, mp_207⟩
set_option maxRecDepth 10000 in
theorem ca_14 : CAP (0, 53, 9, 1, 0, 3) := ⟨fun _ => (tb_4 _ (List.mem_of_getElem? (i := 144) rfl)), fun h => absurd h (by decide), by decide, fun h => absurd h (by decide), fun _ => ⟨(tb_4 _ (List.mem_of_getElem? (i := 145) rfl)), (tb_4 _ (List.mem_of_getElem? (i := 146) rfl))⟩, fun h => absurd h (by decide), by decide, mp_9⟩
set_option maxRecDepth 10000 in
theorem ca_15 : CAP (0, 57, 208, 1, 0, 3) := ⟨fun _ => (tb_8 _ (List.mem_of_getElem? (i := 21) rfl)), fun h => absurd h (by decide), by decide, fun h => absurd h (by decide), fun _ => ⟨(tb_8 _ (List.mem_of_getElem? (i := 22) rfl)), (tb_8 _ (List.mem_of_getElem? (i := 23) rfl))⟩, fun h => absurd h (by decide), by decide, mp_208⟩
set_option maxRecDepth 10000 in
theorem ca_16 : CAP (0, 58, 10, 1, 0, 1) := ⟨fun _ => (tb_4 _ (List.mem_of_getElem? (i := 150) rfl)), fun h => absurd h (by decide), by decide, fun h => absurd h (by decide), fun _ => ⟨(tb_4 _ (List.mem_of_getElem? (i := 151) rfl)), (tb_4 _ (List.mem_of_getElem? (i := 152) rfl))⟩, fun h => absurd h (by decide), by decide, mp_10⟩
set_option maxRecDepth 10000 in
theorem ca_17 : CAP (0, 61, 209, 1, 0, 1) := ⟨fun _ => (tb_8 _ (List.mem_of_getElem? (i := 26) rfl)), fun h => absurd h (by decide), by decide, fun h => absurd h (by decide), fun _ => ⟨(tb_8 _ (List.mem_of_getElem? (i := 27) rfl)), (tb_8 _ (List.mem_of_getElem? (i := 28) rfl))⟩, fun h => absurd h (by decide), by decide, mp_209⟩
set_option maxRecDepth 10000 in
theorem ca_18 : CAP (0, 62, 11, 1, 0, 2) := ⟨fun _ => (tb_4 _ (List.mem_of_getElem? (i := 214) rfl)), fun h => absurd h (by decide), by decide, fun h => absurd h (by decide), fun _ => ⟨(tb_4 _ (List.mem_of_getElem? (i := 215) rfl)), (tb_4 _ (List.mem_of_getElem? (i := 216) rfl))⟩, fun h => absurd h (by decide), by decide, mp_11⟩
set_option maxRecDepth 10000 in
theorem ca_19 : CAP (0, 65, 210, 1, 0, 2) := ⟨fun _ => (tb_8 _ (List.mem_of_getElem? (i := 67) rfl)), fun h => absurd h (by decide), by decide, fun h => absurd h (by decide), fun _ => ⟨(tb_8 _ (List.mem_of_getElem? (i := 68) rfl)), (tb_8 _ (List.mem_of_getElem? (i := 69) rfl))⟩, fun h => absurd h (by decide), by decide, mp_210⟩
set_option maxRecDepth 10000 in
theorem ca_20 : CAP (0, 66, 14, 1, 0, 2) := ⟨fun _ => (tb_4 _ (List.mem_of_getElem? (i := 239) rfl)), fun h => absurd h (by decide), by decide, fun h => absurd h (by decide), fun _ => ⟨(tb_5 _ (List.mem_of_getElem? (i := 0) rfl)), (tb_5 _ (List.mem_of_getElem? (i := 1) rfl))⟩, fun h => absurd h (by decide), by decide, mp_14⟩
set_option maxRecDepth 10000 in
theorem ca_21 : CAP (0, 69, 212, 1, 0, 2) := ⟨fun _ => (tb_8 _ (List.mem_of_getElem? (i := 71) rfl)), fun h => absurd h (by decide), by decide, fun h => absurd h (by decide), fun _ => ⟨(tb_8 _ (List.mem_of_getElem? (i := 72) rfl)), (tb_8 _ (List.mem_of_getElem? (i := 73) rfl))⟩, fun h => absurd h (by decide), by decide, mp_212⟩
set_option maxRecDepth 10000 in
theorem ca_22 : CAP (0, 70, 15, 1, 0, 2) := ⟨fun _ => (tb_5 _ (List.mem_of_getElem? (i := 15) rfl)), fun h => absurd h (by decide), by decide, fun h => absurd h (by decide), fun _ => ⟨(tb_5 _ (List.mem_of_getElem? (i := 16) rfl)), (tb_5 _ (List.mem_of_getElem? (i := 17) rfl))⟩, fun h => absurd h (by decide), by decide, mp_15⟩
set_option maxRecDepth 10000 in
theorem ca_23 : CAP (0, 73, 217, 1, 0, 2) := ⟨fun _ => (tb_8 _ (List.mem_of_getElem? (i := 79) rfl)), fun h => absurd h (by decide), by decide, fun h => absurd h (by decide), fun _ => ⟨(tb_8 _ (List.mem_of_getElem? (i := 80) rfl)), (tb_8 _ (List.mem_of_getElem? (i := 81) rfl))⟩, fun h => absurd h (by decide), by decide, mp_217⟩
set_option maxRecDepth 10000 in
theorem ca_24 : CAP (0, 74, 16, 1, 0, 1) := ⟨fun _ => (tb_5 _ (List.mem_of_getElem? (i := 33) rfl)), fun h => absurd h (by decide), by decide, fun h => absurd h (by decide), fun _ => ⟨(tb_5 _ (List.mem_of_getElem? (i := 34) rfl)), (tb_5 _ (List.mem_of_getElem? (i := 35) rfl))⟩, fun h => absurd h (by decide), by decide, mp_16⟩
set_option maxRecDepth 10000 in
theorem ca_25 : CAP (0, 77, 219, 1, 0, 1) := ⟨fun _ => (tb_8 _ (List.mem_of_getElem? (i := 99) rfl)), fun h => absurd h (by decide), by decide, fun h => absurd h (by decide), fun _ => ⟨(tb_8 _ (List.mem_of_getElem? (i := 100) rfl)), (tb_8 _ (List.mem_of_getElem? (i := 101) rfl))⟩, fun h => absurd h (by decide), by decide, mp_219⟩
set_option maxRecDepth 10000 in
theorem ca_26 : CAP (0, 78, 18, 1, 0, 1) := ⟨fun _ => (tb_5 _ (List.mem_of_getElem? (i := 43) rfl)), fun h => absurd h (by decide), by decide, fun h => absurd h (by decide), fun _ => ⟨(tb_5 _ (List.mem_of_getElem? (i := 44) rfl)), (tb_5 _ (List.mem_of_getElem? (i := 45) rfl))⟩, fun h => absurd h (by decide), by decide, mp_18⟩
set_option maxRecDepth 10000 in
theorem ca_27 : CAP (0, 81, 220, 1, 0, 1) := ⟨fun _ => (tb_8 _ (List.mem_of_getElem? (i := 111) rfl)), fun h => absurd h (by decide), by decide, fun h => absurd h (by decide), fun _ => ⟨(tb_8 _ (List.mem_of_getElem? (i := 112) rfl)), (tb_8 _ (List.mem_of_getElem? (i := 113) rfl))⟩, fun h => absurd h (by decide), by decide, mp_220⟩
set_option maxRecDepth 10000 in
theorem ca_28 : CAP (0, 82, 19, 1, 0, 1) := ⟨fun _ => (tb_5 _ (List.mem_of_getElem? (i := 56) rfl)), fun h => absurd h (by decide), by decide, fun h => absurd h (by decide), fun _ => ⟨(tb_5 _ (List.mem_of_getElem? (i := 57) rfl)), (tb_5 _ (List.mem_of_getElem? (i := 58) rfl))⟩, fun h => absurd h (by decide), by decide, mp_19⟩
set_option maxRecDepth 10000 in
theorem ca_29 : CAP (0, 85, 224, 1, 0, 1) := ⟨fun _ => (tb_8 _ (List.mem_of_getElem? (i := 115) rfl)), fun h => absurd h (by decide), by decide, fun h => absurd h (by decide), fun _ => ⟨(tb_8 _ (List.mem_of_getElem? (i := 116) rfl)), (tb_8 _ (List.mem_of_getElem? (i := 117) rfl))⟩, fun h => absurd h (by decide), by decide, mp_224⟩
set_option maxRecDepth 10000 in
theorem ca_30 : CAP (0, 86, 20, 1, 0, 0) := ⟨fun _ => (tb_5 _ (List.mem_of_getElem? (i := 81) rfl)), fun h => absurd h (by decide), by decide, fun h => absurd h (by decide), fun _ => ⟨(tb_5 _ (List.mem_of_getElem? (i := 82) rfl)), (tb_5 _ (List.mem_of_getElem? (i := 83) rfl))⟩, fun h => absurd h (by decide), by decide, mp_20⟩
set_option maxRecDepth 10000 in
theorem ca_31 : CAP (0, 89, 225, 1, 0, 0) := ⟨fun _ => (tb_8 _ (List.mem_of_getElem? (i := 131) rfl)), fun h => absurd h (by decide), by decide, fun h => absurd h (by decide), fun _ => ⟨(tb_8 _ (List.mem_of_getElem? (i := 132) rfl)), (tb_8 _ (List.mem_of_getElem? (i := 133) rfl))⟩, fun h => absurd h (by decide), by decide, mp_225⟩
set_option maxRecDepth 10000 in
theorem ca_32 : CAP (0, 90, 21, 1, 0, 1) := ⟨fun _ => (tb_5 _ (List.mem_of_getElem? (i := 85) rfl)), fun h => absurd h (by decide), by decide, fun h => absurd h (by decide), fun _ => ⟨(tb_5 _ (List.mem_of_getElem? (i := 86) rfl)), (tb_5 _ (List.mem_of_getElem? (i := 87) rfl))⟩, fun h => absurd h (by decide), by decide, mp_21⟩
set_option maxRecDepth 10000 in
theorem ca_33 : CAP (0, 93, 226, 1, 0, 1) := ⟨fun _ => (tb_8 _ (List.mem_of_getElem? (i := 135) rfl)), fun h => absurd h (by decide), by decide, fun h => absurd h (by decide), fun _ => ⟨(tb_8 _ (List.mem_of_getElem? (i := 136) rfl)), (tb_8 _ (List.mem_of_getElem? (i := 137) rfl))⟩, fun h => absurd h (by decide), by decide, mp_226⟩
set_option maxRecDepth 10000 in
theorem ca_34 : CAP (0, 94, 23, 1, 0, 2) := ⟨fun _ => (tb_5 _ (List.mem_of_getElem? (i := 95) rfl)), fun h => absurd h (by decide), by decide, fun h => absurd h (by decide), fun _ => ⟨(tb_5 _ (List.mem_of_getElem? (i := 96) rfl)), (tb_5 _ (List.mem_of_getElem? (i := 97) rfl))⟩, fun h => absurd h (by decide), by decide, mp_23⟩
set_option maxRecDepth 10000 in
theorem ca_35 : CAP (0, 97, 227, 1, 0, 2) := ⟨fun _ => (tb_8 _ (List.mem_of_getElem? (i := 139) rfl)), fun h => absurd h (by decide), by decide, fun h => absurd h (by decide), fun _ => ⟨(tb_8 _ (List.mem_of_getElem? (i := 140) rfl)), (tb_8 _ (List.mem_of_getElem? (i := 141) rfl))⟩, fun h => absurd h (by decide), by decide, mp_227⟩
set_option maxRecDepth 10000 in
theorem ca_36 : CAP (0, 98, 22, 1, 0, 2) := ⟨fun _ => (tb_5 _ (List.mem_of_getElem? (i := 91) rfl)), fun h => absurd h (by decide), by decide, fun h => absurd h (by decide), fun _ => ⟨(tb_5 _ (List.mem_of_getElem? (i := 92) rfl)), (tb_5 _ (List.mem_of_getElem? (i := 93) rfl))⟩, fun h => absurd h (by decide), by decide, mp_22⟩
set_option maxRecDepth 10000 in
theorem ca_37 : CAP (0, 101, 228, 1, 0, 2) := ⟨fun _ => (tb_8 _ (List.mem_of_getElem? (i := 143) rfl)), fun h => absurd h (by decide), by decide, fun h => absurd h (by decide), fun _ => ⟨(tb_8 _ (List.mem_of_getElem? (i := 144) rfl)), (tb_8 _ (List.mem_of_getElem? (i := 145) rfl))⟩, fun h => absurd h (by decide), by decide, mp_228⟩
set_option maxRecDepth 10000 in
theorem ca_38 : CAP (0, 102, 25, 1, 0, 2) := ⟨fun _ => (tb_5 _ (List.mem_of_getElem? (i := 111) rfl)), fun h => absurd h (by decide), by decide, fun h => absurd h (by decide), fun _ => ⟨(tb_5 _ (List.mem_of_getElem? (i := 112) rfl)), (tb_5 _ (List.mem_of_getElem? (i := 113) rfl))⟩, fun h => absurd h (by decide), by decide, mp_25⟩
set_option maxRecDepth 10000 in
theorem ca_39 : CAP (0, 106, 229, 1, 0, 2) := ⟨fun _ => (tb_8 _ (List.mem_of_getElem? (i := 147) rfl)), fun h => absurd h (by decide), by decide, fun h => absurd h (by decide), fun _ => ⟨(tb_8 _ (List.mem_of_getElem? (i := 148) rfl)), (tb_8 _ (List.mem_of_getElem? (i := 149) rfl))⟩, fun h => absurd h (by decide), by decide, mp_229⟩
set_option maxRecDepth 10000 in
theorem ca_40 : CAP (0, 107, 26, 1, 0, 1) := ⟨fun _ => (tb_5 _ (List.mem_of_getElem? (i := 119) rfl)), fun h => absurd h (by decide), by decide, fun h => absurd h (by decide), fun _ => ⟨(tb_5 _ (List.mem_of_getElem? (i := 120) rfl)), (tb_5 _ (List.mem_of_getElem? (i := 121) rfl))⟩, fun h => absurd h (by decide), by decide, mp_26⟩
set_option maxRecDepth 10000 in
theorem ca_41 : CAP (0, 110, 230, 1, 0, 1) := ⟨fun _ => (tb_8 _ (List.mem_of_getElem? (i := 155) rfl)), fun h => absurd h (by decide), by decide, fun h => absurd h (by decide), fun _ => ⟨(tb_8 _ (List.mem_of_getElem? (i := 156) rfl)), (tb_8 _ (List.mem_of_getElem? (i := 157) rfl))⟩, fun h => absurd h (by decide), by decide, mp_230⟩
set_option maxRecDepth 10000 in
theorem ca_42 : CAP (0, 111, 27, 1, 0, 1) := ⟨fun _ => (tb_5 _ (List.mem_of_getElem? (i := 123) rfl)), fun h => absurd h (by decide), by decide, fun h => absurd h (by decide), fun _ => ⟨(tb_5 _ (List.mem_of_getElem? (i := 124) rfl)), (tb_5 _ (List.mem_of_getElem? (i := 125) rfl))⟩, fun h => absurd h (by decide), by decide, mp_27⟩
set_option maxRecDepth 10000 in
theorem ca_43 : CAP (0, 115, 231, 1, 0, 1) := ⟨fun _ => (tb_8 _ (List.mem_of_getElem? (i := 159) rfl)), fun h => absurd h (by decide), by decide, fun h => absurd h (by decide), fun _ => ⟨(tb_8 _ (List.mem_of_getElem? (i := 160) rfl)), (tb_8 _ (List.mem_of_getElem? (i := 161) rfl))⟩, fun h => absurd h (by decide), by decide, mp_231⟩
set_option maxRecDepth 10000 in
theorem ca_44 : CAP (0, 116, 28, 1, 0, 0) := ⟨fun _ => (tb_5 _ (List.mem_of_getElem? (i := 127) rfl)), fun h => absurd h (by decide), by decide, fun h => absurd h (by decide), fun _ => ⟨(tb_5 _ (List.mem_of_getElem? (i := 128) rfl)), (tb_5 _ (List.mem_of_getElem? (i := 129) rfl))⟩, fun h => absurd h (by decide), by decide, mp_28⟩
set_option maxRecDepth 10000 in
theorem ca_45 : CAP (0, 119, 233, 1, 0, 0) := ⟨fun _ => (tb_8 _ (List.mem_of_getElem? (i := 163) rfl)), fun h => absurd h (by decide), by decide, fun h => absurd h (by decide), fun _ => ⟨(tb_8 _ (List.mem_of_getElem? (i := 164) rfl)), (tb_8 _ (List.mem_of_getElem? (i := 165) rfl))⟩, fun h => absurd h (by decide), by decide, mp_233⟩
set_option maxRecDepth 10000 in
theorem ca_46 : CAP (0, 120, 29, 1, 0, 0) := ⟨fun _ => (tb_5 _ (List.mem_of_getElem? (i := 152) rfl)), fun h => absurd h (by decide), by decide, fun h => absurd h (by decide), fun _ => ⟨(tb_5 _ (List.mem_of_getElem? (i := 153) rfl)), (tb_5 _ (List.mem_of_getElem? (i := 154) rfl))⟩, fun h => absurd h (by decide), by decide, mp_29⟩
set_option maxRecDepth 10000 in
theorem ca_47 : CAP (0, 123, 234, 1, 0, 0) := ⟨fun _ => (tb_8 _ (List.mem_of_getElem? (i := 171) rfl)), fun h => absurd h (by decide), by decide, fun h => absurd h (by decide), fun _ => ⟨(tb_8 _ (List.mem_of_getElem? (i := 172) rfl)), (tb_8 _ (List.mem_of_getElem? (i := 173) rfl))⟩, fun h => absurd h (by decide), by decide, mp_234⟩
set_option maxRecDepth 10000 in
theorem ca_48 : CAP (0, 124, 12, 1, 0, 3) := ⟨fun _ => (tb_4 _ (List.mem_of_getElem? (i := 218) rfl)), fun h => absurd h (by decide), by decide, fun h => absurd h (by decide), fun _ => ⟨(tb_4 _ (List.mem_of_getElem? (i := 219) rfl)), (tb_4 _ (List.mem_of_getElem? (i := 220) rfl))⟩, fun h => absurd h (by decide), by decide, mp_12⟩
set_option maxRecDepth 10000 in
theorem ca_49 : CAP (0, 128, 235, 1, 0, 3) := ⟨fun _ => (tb_8 _ (List.mem_of_getElem? (i := 175) rfl)), fun h => absurd h (by decide), by decide, fun h => absurd h (by decide), fun _ => ⟨(tb_8 _ (List.mem_of_getElem? (i := 176) rfl)), (tb_8 _ (List.mem_of_getElem? (i := 177) rfl))⟩, fun h => absurd h (by decide), by decide, mp_235⟩
set_option maxRecDepth 10000 in
theorem ca_50 : CAP (0, 129, 24, 1, 0, 0) := ⟨fun _ => (tb_5 _ (List.mem_of_getElem? (i := 103) rfl)), fun h => absurd h (by decide), by decide, fun h => absurd h (by decide), fun _ => ⟨(tb_5 _ (List.mem_of_getElem? (i := 104) rfl)), (tb_5 _ (List.mem_of_getElem? (i := 105) rfl))⟩, fun h => absurd h (by decide), by decide, mp_24⟩
set_option maxRecDepth 10000 in
theorem ca_51 : CAP (0, 132, 237, 1, 0, 0) := ⟨fun _ => (tb_8 _ (List.mem_of_getElem? (i := 183) rfl)), fun h => absurd h (by decide), by decide, fun h => absurd h (by decide), fun _ => ⟨(tb_8 _ (List.mem_of_getElem? (i := 184) rfl)), (tb_8 _ (List.mem_of_getElem? (i := 185) rfl))⟩, fun h => absurd h (by decide), by decide, mp_237⟩
set_option maxRecDepth 10000 in
theorem ca_52 : CAP (0, 133, 30, 1, 0, 0) := ⟨fun _ => (tb_5 _ (List.mem_of_getElem? (i := 156) rfl)), fun h => absurd h (by decide), by decide, fun h => absurd h (by decide), fun _ => ⟨(tb_5 _ (List.mem_of_getElem? (i := 157) rfl)), (tb_5 _ (List.mem_of_getElem? (i := 158) rfl))⟩, fun h => absurd h (by decide), by decide, mp_30⟩
set_option maxRecDepth 10000 in
theorem ca_53 : CAP (0, 136, 238, 1, 0, 0) := ⟨fun _ => (tb_8 _ (List.mem_of_getElem? (i := 187) rfl)), fun h => absurd h (by decide), by decide, fun h => absurd h (by decide), fun _ => ⟨(tb_8 _ (List.mem_of_getElem? (i := 188) rfl)), (tb_8 _ (List.mem_of_getElem? (i := 189) rfl))⟩, fun h => absurd h (by decide), by decide, mp_238⟩
set_option maxRecDepth 10000 in
theorem ca_54 : CAP (0, 137, 31, 1, 0, 0) := ⟨fun _ => (tb_5 _ (List.mem_of_getElem? (i := 160) rfl)), fun h => absurd h (by decide), by decide, fun h => absurd h (by decide), fun _ => ⟨(tb_5 _ (List.mem_of_getElem? (i := 161) rfl)), (tb_5 _ (List.mem_of_getElem? (i := 162) rfl))⟩, fun h => absurd h (by decide), by decide, mp_31⟩
set_option maxRecDepth 10000 in
theorem ca_55 : CAP (0, 140, 239, 1, 0, 0) := ⟨fun _ => (tb_8 _ (List.mem_of_getElem? (i := 195) rfl)), fun h => absurd h (by decide), by decide, fun h => absurd h (by decide), fun _ => ⟨(tb_8 _ (List.mem_of_getElem? (i := 196) rfl)), (tb_8 _ (List.mem_of_getElem? (i := 197) rfl))⟩, fun h => absurd h (by decide), by decide, mp_239⟩
set_option maxRecDepth 10000 in
theorem ca_56 : CAP (0, 141, 32, 1, 0, 1) := ⟨fun _ => (tb_5 _ (List.mem_of_getElem? (i := 164) rfl)), fun h => absurd h (by decide), by decide, fun h => absurd h (by decide), fun _ => ⟨(tb_5 _ (List.mem_of_getElem? (i := 165) rfl)), (tb_5 _ (List.mem_of_getElem? (i := 166) rfl))⟩, fun h => absurd h (by decide), by decide, mp_32⟩
set_option maxRecDepth 10000 in
theorem ca_57 : CAP (0, 144, 240, 1, 0, 1) := ⟨fun _ => (tb_8 _ (List.mem_of_getElem? (i := 199) rfl)), fun h => absurd h (by decide), by decide, fun h => absurd h (by decide), fun _ => ⟨(tb_8 _ (List.mem_of_getElem? (i := 200) rfl)), (tb_8 _ (List.mem_of_getElem? (i := 201) rfl))⟩, fun h => absurd h (by decide), by decide, mp_240⟩
set_option maxRecDepth 10000 in
theorem ca_58 : CAP (1, 17, 33, 2, 1, 0) := ⟨fun h => absurd h (by decide), fun _ => (tb_1 _ (List.mem_of_getElem? (i := 37) rfl)), by decide, fun h => absurd h (by decide), fun h => absurd h (by decide), fun _ => ⟨(tb_1 _ (List.mem_of_getElem? (i := 38) rfl)), by decide +kernel, by decide +kernel⟩, by decide, mp_33⟩
set_option maxRecDepth 10000 in
theorem ca_59 : CAP (1, 24, 64, 2, 1, 0) := ⟨fun h => absurd h (by decide), fun _ => (tb_2 _ (List.mem_of_getElem? (i := 5) rfl)), by decide, fun h => absurd h (by decide), fun h => absurd h (by decide), fun _ => ⟨(tb_1 _ (List.mem_of_getElem? (i := 79) rfl)), by decide +kernel, by decide +kernel⟩, by decide, mp_64⟩
set_option maxRecDepth 10000 in
theorem ca_60 : CAP (1, 34, 84, 2, 1, 1) := ⟨fun h => absurd h (by decide), fun _ => (tb_2 _ (List.mem_of_getElem? (i := 8) rfl)), by decide, fun h => absurd h (by decide), fun h => absurd h (by decide), fun _ => ⟨(tb_2 _ (List.mem_of_getElem? (i := 9) rfl)), by decide +kernel, by decide +kernel⟩, by decide, mp_84⟩
set_option maxRecDepth 10000 in
theorem ca_61 : CAP (1, 49, 131, 2, 1, 1) := ⟨fun h => absurd h (by decide), fun _ => (tb_2 _ (List.mem_of_getElem? (i := 76) rfl)), by decide, fun h => absurd h (by decide), fun h => absurd h (by decide), fun _ => ⟨(tb_2 _ (List.mem_of_getElem? (i := 77) rfl)), by decide +kernel, by decide +kernel⟩, by decide, mp_131⟩
set_option maxRecDepth 10000 in
theorem ca_62 : CAP (1, 56, 108, 2, 1, 0) := ⟨fun h => absurd h (by decide), fun _ => (tb_2 _ (List.mem_of_getElem? (i := 96) rfl)), by decide, fun h => absurd h (by decide), fun h => absurd h (by decide), fun _ => ⟨(tb_2 _ (List.mem_of_getElem? (i := 97) rfl)), by decide +kernel, by decide +kernel⟩, by decide, mp_108⟩
set_option maxRecDepth 10000 in
theorem ca_63 : CAP (1, 68, 118, 2, 1, 0) := ⟨fun h => absurd h (by decide), fun _ => (tb_2 _ (List.mem_of_getElem? (i := 137) rfl)), by decide, fun h => absurd h (by decide), fun h => absurd h (by decide), fun _ => ⟨(tb_2 _ (List.mem_of_getElem? (i := 138) rfl)), by decide +kernel, by decide +kernel⟩, by decide, mp_118⟩
set_option maxRecDepth 10000 in
theorem ca_64 : CAP (1, 75, 120, 2, 1, 0) := ⟨fun h => absurd h (by decide), fun _ => (tb_2 _ (List.mem_of_getElem? (i := 159) rfl)), by decide, fun h => absurd h (by decide), fun h => absurd h (by decide), fun _ => ⟨(tb_2 _ (List.mem_of_getElem? (i := 160) rfl)), by decide +kernel, by decide +kernel⟩, by decide, mp_120⟩
set_option maxRecDepth 10000 in
theorem ca_65 : CAP (1, 82, 125, 2, 1, 0) := ⟨fun h => absurd h (by decide), fun _ => (tb_2 _ (List.mem_of_getElem? (i := 181) rfl)), by decide, fun h => absurd h (by decide), fun h => absurd h (by decide), fun _ => ⟨(tb_2 _ (List.mem_of_getElem? (i := 182) rfl)), by decide +kernel, by decide +kernel⟩, by decide, mp_125⟩
set_option maxRecDepth 10000 in
theorem ca_66 : CAP (1, 91, 3, 1, 0, 1) := ⟨fun _ => (tb_3 _ (List.mem_of_getElem? (i := 16) rfl)), fun h => absurd h (by decide), by decide, fun h => absurd h (by decide), fun _ => ⟨(tb_3 _ (List.mem_of_getElem? (i := 18) rfl)), (tp_1 _ (List.mem_of_getElem? (i := 0) rfl))⟩, fun h => absurd h (by decide), by decide, mp_3⟩
set_option maxRecDepth 10000 in
theorem ca_67 : CAP (1, 95, 34, 1, 1, 3) := ⟨fun h => absurd h (by decide), fun _ => (tb_3 _ (List.mem_of_getElem? (i := 24) rfl)), by decide, fun h => absurd h (by decide), fun _ => ⟨(tb_3 _ (List.mem_of_getElem? (i := 26) rfl)), (tp_1 _ (List.mem_of_getElem? (i := 1) rfl))⟩, fun h => absurd h (by decide), by decide, mp_34⟩
set_option maxRecDepth 10000 in
theorem ca_68 : CAP (1, 99, 85, 1, 1, 1) := ⟨fun h => absurd h (by decide), fun _ => (tb_4 _ (List.mem_of_getElem? (i := 51) rfl)), by decide, fun h => absurd h (by decide), fun _ => ⟨(tb_4 _ (List.mem_of_getElem? (i := 53) rfl)), (tp_3 _ (List.mem_of_getElem? (i := 9) rfl))⟩, fun h => absurd h (by decide), by decide, mp_85⟩
set_option maxRecDepth 10000 in
theorem ca_69 : CAP (1, 102, 132, 1, 1, 0) := ⟨fun h => absurd h (by decide), fun _ => (tb_4 _ (List.mem_of_getElem? (i := 55) rfl)), by decide, fun h => absurd h (by decide), fun _ => ⟨(tb_4 _ (List.mem_of_getElem? (i := 57) rfl)), (tp_3 _ (List.mem_of_getElem? (i := 10) rfl))⟩, fun h => absurd h (by decide), by decide, mp_132⟩
set_option maxRecDepth 10000 in
theorem ca_70 : CAP (1, 109, 126, 1, 1, 0) := ⟨fun h => absurd h (by decide), fun _ => (tb_4 _ (List.mem_of_getElem? (i := 59) rfl)), by decide, fun h => absurd h (by decide), fun _ => ⟨(tb_4 _ (List.mem_of_getElem? (i := 61) rfl)), (tp_3 _ (List.mem_of_getElem? (i := 11) rfl))⟩, fun h => absurd h (by decide), by decide, mp_126⟩
set_option maxRecDepth 10000 in
theorem ca_71 : CAP (1, 119, 70, 1, 1, 1) := ⟨fun h => absurd h (by decide), fun _ => (tb_4 _ (List.mem_of_getElem? (i := 71) rfl)), by decide, fun h => absurd h (by decide), fun _ => ⟨(tb_3 _ (List.mem_of_getElem? (i := 169) rfl)), (tp_1 _ (List.mem_of_getElem? (i := 12) rfl))⟩, fun h => absurd h (by decide), by decide, mp_70⟩
set_option maxRecDepth 10000 in
theorem ca_72 : CAP (1, 123, 71, 1, 1, 1) := ⟨fun h => absurd h (by decide), fun _ => (tb_4 _ (List.mem_of_getElem? (i := 72) rfl)), by decide, fun h => absurd h (by decide), fun _ => ⟨(tb_3 _ (List.mem_of_getElem? (i := 191) rfl)), (tp_2 _ (List.mem_of_getElem? (i := 1) rfl))⟩, fun h => absurd h (by decide), by decide, mp_71⟩
set_option maxRecDepth 10000 in
theorem ca_73 : CAP (1, 126, 67, 1, 1, 1) := ⟨fun h => absurd h (by decide), fun _ => (tb_4 _ (List.mem_of_getElem? (i := 226) rfl)), by decide, fun h => absurd h (by decide), fun _ => ⟨(tb_3 _ (List.mem_of_getElem? (i := 211) rfl)), (tp_2 _ (List.mem_of_getElem? (i := 6) rfl))⟩, fun h => absurd h (by decide), by decide, mp_67⟩
set_option maxRecDepth 10000 in
theorem ca_74 : CAP (1, 141, 87, 1, 1, 1) := ⟨fun h => absurd h (by decide), fun _ => (tb_5 _ (List.mem_of_getElem? (i := 47) rfl)), by decide, fun h => absurd h (by decide), fun _ => ⟨(tb_4 _ (List.mem_of_getElem? (i := 164) rfl)), (tp_4 _ (List.mem_of_getElem? (i := 9) rfl))⟩, fun h => absurd h (by decide), by decide, mp_87⟩
set_option maxRecDepth 10000 in
theorem ca_75 : CAP (1, 144, 99, 1, 1, 1) := ⟨fun h => absurd h (by decide), fun _ => (tb_5 _ (List.mem_of_getElem? (i := 140) rfl)), by decide, fun h => absurd h (by decide), fun _ => ⟨(tb_5 _ (List.mem_of_getElem? (i := 142) rfl)), (tp_6 _ (List.mem_of_getElem? (i := 8) rfl))⟩, fun h => absurd h (by decide), by decide, mp_99⟩
set_option maxRecDepth 10000 in
theorem ca_76 : CAP (1, 147, 97, 1, 1, 1) := ⟨fun h => absurd h (by decide), fun _ => (tb_6 _ (List.mem_of_getElem? (i := 13) rfl)), by decide, fun h => absurd h (by decide), fun _ => ⟨(tb_4 _ (List.mem_of_getElem? (i := 104) rfl)), (tp_4 _ (List.mem_of_getElem? (i := 1) rfl))⟩, fun h => absurd h (by decide), by decide, mp_97⟩
set_option maxRecDepth 10000 in
theorem ca_77 : CAP (1, 161, 68, 1, 1, 1) := ⟨fun h => absurd h (by decide), fun _ => (tb_4 _ (List.mem_of_getElem? (i := 77) rfl)), by decide, fun h => absurd h (by decide), fun _ => ⟨(tb_4 _ (List.mem_of_getElem? (i := 79) rfl)), (tp_3 _ (List.mem_of_getElem? (i := 12) rfl))⟩, fun h => absurd h (by decide), by decide, mp_68⟩
set_option maxRecDepth 10000 in
theorem ca_78 : CAP (1, 179, 93, 1, 1, 1) := ⟨fun h => absurd h (by decide), fun _ => (tb_4 _ (List.mem_of_getElem? (i := 81) rfl)), by decide, fun h => absurd h (by decide), fun _ => ⟨(tb_4 _ (List.mem_of_getElem? (i := 83) rfl)), (tp_3 _ (List.mem_of_getElem? (i := 13) rfl))⟩, fun h => absurd h (by decide), by decide, mp_93⟩
set_option maxRecDepth 10000 in
theorem ca_79 : CAP (1, 182, 92, 1, 1, 1) := ⟨fun h => absurd h (by decide), fun _ => (tb_4 _ (List.mem_of_getElem? (i := 127) rfl)), by decide, fun h => absurd h (by decide), fun _ => ⟨(tb_4 _ (List.mem_of_getElem? (i := 129) rfl)), (tp_4 _ (List.mem_of_getElem? (i := 3) rfl))⟩, fun h => absurd h (by decide), by decide, mp_92⟩
set_option maxRecDepth 10000 in
theorem ca_80 : CAP (1, 190, 96, 1, 1, 3) := ⟨fun h => absurd h (by decide), fun _ => (tb_4 _ (List.mem_of_getElem? (i := 149) rfl)), by decide, fun h => absurd h (by decide), fun _ => ⟨(tb_4 _ (List.mem_of_getElem? (i := 87) rfl)), (tp_3 _ (List.mem_of_getElem? (i := 14) rfl))⟩, fun h => absurd h (by decide), by decide, mp_96⟩
set_option maxRecDepth 10000 in
theorem ca_81 : CAP (1, 197, 109, 1, 1, 3) := ⟨fun h => absurd h (by decide), fun _ => (tb_4 _ (List.mem_of_getElem? (i := 154) rfl)), by decide, fun h => absurd h (by decide), fun _ => ⟨(tb_4 _ (List.mem_of_getElem? (i := 156) rfl)), (tp_4 _ (List.mem_of_getElem? (i := 7) rfl))⟩, fun h => absurd h (by decide), by decide, mp_109⟩
set_option maxRecDepth 10000 in
theorem ca_82 : CAP (1, 210, 13, 1, 0, 2) := ⟨fun _ => (tb_4 _ (List.mem_of_getElem? (i := 222) rfl)), fun h => absurd h (by decide), by decide, fun h => absurd h (by decide), fun _ => ⟨(tb_4 _ (List.mem_of_getElem? (i := 224) rfl)), (tp_5 _ (List.mem_of_getElem? (i := 4) rfl))⟩, fun h => absurd h (by decide), by decide, mp_13⟩
set_option maxRecDepth 10000 in
theorem ca_83 : CAP (1, 214, 86, 1, 1, 1) := ⟨fun h => absurd h (by decide), fun _ => (tb_4 _ (List.mem_of_getElem? (i := 228) rfl)), by decide, fun h => absurd h (by decide), fun _ => ⟨(tb_4 _ (List.mem_of_getElem? (i := 230) rfl)), (tp_5 _ (List.mem_of_getElem? (i := 5) rfl))⟩, fun h => absurd h (by decide), by decide, mp_86⟩
set_option maxRecDepth 10000 in
theorem ca_84 : CAP (1, 218, 106, 1, 1, 0) := ⟨fun h => absurd h (by decide), fun _ => (tb_4 _ (List.mem_of_getElem? (i := 235) rfl)), by decide, fun h => absurd h (by decide), fun _ => ⟨(tb_4 _ (List.mem_of_getElem? (i := 237) rfl)), (tp_5 _ (List.mem_of_getElem? (i := 6) rfl))⟩, fun h => absurd h (by decide), by decide, mp_106⟩
set_option maxRecDepth 10000 in
theorem ca_85 : CAP (1, 222, 66, 1, 1, 1) := ⟨fun h => absurd h (by decide), fun _ => (tb_4 _ (List.mem_of_getElem? (i := 227) rfl)), by decide, fun h => absurd h (by decide), fun _ => ⟨(tb_3 _ (List.mem_of_getElem? (i := 219) rfl)), (tp_2 _ (List.mem_of_getElem? (i := 8) rfl))⟩, fun h => absurd h (by decide), by decide, mp_66⟩
set_option maxRecDepth 10000 in
theorem ca_86 : CAP (1, 225, 116, 1, 1, 2) := ⟨fun h => absurd h (by decide), fun _ => (tb_5 _ (List.mem_of_getElem? (i := 3) rfl)), by decide, fun h => absurd h (by decide), fun _ => ⟨(tb_5 _ (List.mem_of_getElem? (i := 5) rfl)), (tp_5 _ (List.mem_of_getElem? (i := 7) rfl))⟩, fun h => absurd h (by decide), by decide, mp_116⟩
set_option maxRecDepth 10000 in
theorem ca_87 : CAP (1, 238, 17, 1, 0, 1) := ⟨fun _ => (tb_5 _ (List.mem_of_getElem? (i := 19) rfl)), fun h => absurd h (by decide), by decide, fun h => absurd h (by decide), fun _ => ⟨(tb_5 _ (List.mem_of_getElem? (i := 21) rfl)), (tp_5 _ (List.mem_of_getElem? (i := 9) rfl))⟩, fun h => absurd h (by decide), by decide, mp_17⟩
set_option maxRecDepth 10000 in
theorem ca_88 : CAP (1, 241, 119, 1, 1, 2) := ⟨fun h => absurd h (by decide), fun _ => (tb_5 _ (List.mem_of_getElem? (i := 23) rfl)), by decide, fun h => absurd h (by decide), fun _ => ⟨(tb_5 _ (List.mem_of_getElem? (i := 25) rfl)), (tp_5 _ (List.mem_of_getElem? (i := 10) rfl))⟩, fun h => absurd h (by decide), by decide, mp_119⟩
set_option maxRecDepth 10000 in
theorem ca_89 : CAP (1, 253, 133, 1, 1, 1) := ⟨fun h => absurd h (by decide), fun _ => (tb_5 _ (List.mem_of_getElem? (i := 37) rfl)), by decide, fun h => absurd h (by decide), fun _ => ⟨(tb_5 _ (List.mem_of_getElem? (i := 39) rfl)), (tp_5 _ (List.mem_of_getElem? (i := 12) rfl))⟩, fun h => absurd h (by decide), by decide, mp_133⟩
set_option maxRecDepth 10000 in
theorem ca_90 : CAP (1, 256, 102, 1, 1, 2) := ⟨fun h => absurd h (by decide), fun _ => (tb_5 _ (List.mem_of_getElem? (i := 42) rfl)), by decide, fun h => absurd h (by decide), fun _ => ⟨(tb_4 _ (List.mem_of_getElem? (i := 207) rfl)), (tp_5 _ (List.mem_of_getElem? (i := 2) rfl))⟩, fun h => absurd h (by decide), by decide, mp_102⟩
set_option maxRecDepth 10000 in
theorem ca_91 : CAP (1, 260, 104, 1, 1, 1) := ⟨fun h => absurd h (by decide), fun _ => (tb_5 _ (List.mem_of_getElem? (i := 48) rfl)), by decide, fun h => absurd h (by decide), fun _ => ⟨(tb_5 _ (List.mem_of_getElem? (i := 50) rfl)), (tp_5 _ (List.mem_of_getElem? (i := 13) rfl))⟩, fun h => absurd h (by decide), by decide, mp_104⟩
set_option maxRecDepth 10000 in
theorem ca_92 : CAP (1, 263, 121, 1, 1, 1) := ⟨fun h => absurd h (by decide), fun _ => (tb_5 _ (List.mem_of_getElem? (i := 60) rfl)), by decide, fun h => absurd h (by decide), fun _ => ⟨(tb_5 _ (List.mem_of_getElem? (i := 62) rfl)), (tp_5 _ (List.mem_of_getElem? (i := 15) rfl))⟩, fun h => absurd h (by decide), by decide, mp_121⟩
set_option maxRecDepth 10000 in
theorem ca_93 : CAP (1, 275, 91, 1, 1, 1) := ⟨fun h => absurd h (by decide), fun _ => (tb_5 _ (List.mem_of_getElem? (i := 89) rfl)), by decide, fun h => absurd h (by decide), fun _ => ⟨(tb_4 _ (List.mem_of_getElem? (i := 194) rfl)), (tp_4 _ (List.mem_of_getElem? (i := 15) rfl))⟩, fun h => absurd h (by decide), by decide, mp_91⟩
set_option maxRecDepth 10000 in
theorem ca_94 : CAP (1, 281, 101, 1, 1, 1) := ⟨fun h => absurd h (by decide), fun _ => (tb_5 _ (List.mem_of_getElem? (i := 90) rfl)), by decide, fun h => absurd h (by decide), fun _ => ⟨(tb_4 _ (List.mem_of_getElem? (i := 203) rfl)), (tp_5 _ (List.mem_of_getElem? (i := 1) rfl))⟩, fun h => absurd h (by decide), by decide, mp_101⟩
set_option maxRecDepth 10000 in
theorem ca_95 : CAP (1, 284, 103, 1, 1, 2) := ⟨fun h => absurd h (by decide), fun _ => (tb_5 _ (List.mem_of_getElem? (i := 99) rfl)), by decide, fun h => absurd h (by decide), fun _ => ⟨(tb_5 _ (List.mem_of_getElem? (i := 101) rfl)), (tp_6 _ (List.mem_of_getElem? (i := 3) rfl))⟩, fun h => absurd h (by decide), by decide, mp_103⟩
set_option maxRecDepth 10000 in
theorem ca_96 : CAP (1, 288, 134, 1, 1, 1) := ⟨fun h => absurd h (by decide), fun _ => (tb_5 _ (List.mem_of_getElem? (i := 107) rfl)), by decide, fun h => absurd h (by decide), fun _ => ⟨(tb_5 _ (List.mem_of_getElem? (i := 109) rfl)), (tp_6 _ (List.mem_of_getElem? (i := 4) rfl))⟩, fun h => absurd h (by decide), by decide, mp_134⟩
set_option maxRecDepth 10000 in
theorem ca_97 : CAP (1, 292, 127, 1, 1, 2) := ⟨fun h => absurd h (by decide), fun _ => (tb_5 _ (List.mem_of_getElem? (i := 115) rfl)), by decide, fun h => absurd h (by decide), fun _ => ⟨(tb_5 _ (List.mem_of_getElem? (i := 117) rfl)), (tp_6 _ (List.mem_of_getElem? (i := 5) rfl))⟩, fun h => absurd h (by decide), by decide, mp_127⟩
set_option maxRecDepth 10000 in
theorem ca_98 : CAP (1, 301, 129, 1, 1, 0) := ⟨fun h => absurd h (by decide), fun _ => (tb_5 _ (List.mem_of_getElem? (i := 131) rfl)), by decide, fun h => absurd h (by decide), fun _ => ⟨(tb_5 _ (List.mem_of_getElem? (i := 133) rfl)), (tp_6 _ (List.mem_of_getElem? (i := 6) rfl))⟩, fun h => absurd h (by decide), by decide, mp_129⟩
set_option maxRecDepth 10000 in
theorem ca_99 : CAP (1, 307, 130, 1, 1, 1) := ⟨fun h => absurd h (by decide), fun _ => (tb_5 _ (List.mem_of_getElem? (i := 148) rfl)), by decide, fun h => absurd h (by decide), fun _ => ⟨(tb_5 _ (List.mem_of_getElem? (i := 150) rfl)), (tp_6 _ (List.mem_of_getElem? (i := 10) rfl))⟩, fun h => absurd h (by decide), by decide, mp_130⟩
set_option maxRecDepth 10000 in
theorem ca_100 : CAP (1, 316, 79, 1, 1, 0) := ⟨fun h => absurd h (by decide), fun _ => (tb_5 _ (List.mem_of_getElem? (i := 168) rfl)), by decide, fun h => absurd h (by decide), fun _ => ⟨(tb_5 _ (List.mem_of_getElem? (i := 170) rfl)), (tp_6 _ (List.mem_of_getElem? (i := 11) rfl))⟩, fun h => absurd h (by decide), by decide, mp_79⟩
set_option maxRecDepth 10000 in
theorem ca_101 : CAP (1, 319, 128, 1, 1, 0) := ⟨fun h => absurd h (by decide), fun _ => (tb_5 _ (List.mem_of_getElem? (i := 172) rfl)), by decide, fun h => absurd h (by decide), fun _ => ⟨(tb_5 _ (List.mem_of_getElem? (i := 137) rfl)), (tp_6 _ (List.mem_of_getElem? (i := 7) rfl))⟩, fun h => absurd h (by decide), by decide, mp_128⟩
set_option maxRecDepth 10000 in
theorem ca_102 : CAP (1, 326, 107, 1, 1, 0) := ⟨fun h => absurd h (by decide), fun _ => (tb_5 _ (List.mem_of_getElem? (i := 173) rfl)), by decide, fun h => absurd h (by decide), fun _ => ⟨(tb_5 _ (List.mem_of_getElem? (i := 175) rfl)), (tp_6 _ (List.mem_of_getElem? (i := 12) rfl))⟩, fun h => absurd h (by decide), by decide, mp_107⟩
set_option maxRecDepth 10000 in
theorem ca_103 : CAP (2, 11, 56, 2, 1, 0) := ⟨fun h => absurd h (by decide), fun _ => (tb_1 _ (List.mem_of_getElem? (i := 43) rfl)), by decide, fun h => absurd h (by decide), fun h => absurd h (by decide), fun _ => ⟨(tb_1 _ (List.mem_of_getElem? (i := 44) rfl)), by decide +kernel, by decide +kernel⟩, by decide, mp_56⟩
set_option maxRecDepth 10000 in
theorem ca_104 : CAP (2, 20, 64, 2, 1, 0) := ⟨fun h => absurd h (by decide), fun _ => (tb_1 _ (List.mem_of_getElem? (i := 78) rfl)), by decide, fun h => absurd h (by decide), fun h => absurd h (by decide), fun _ => ⟨(tb_1 _ (List.mem_of_getElem? (i := 79) rfl)), by decide +kernel, by decide +kernel⟩, by decide, mp_64⟩
set_option maxRecDepth 10000 in
theorem ca_105 : CAP (2, 35, 65, 1, 1, 0) := ⟨fun h => absurd h (by decide), fun _ => (tb_3 _ (List.mem_of_getElem? (i := 28) rfl)), by decide, fun h => absurd h (by decide), fun _ => ⟨(tb_3 _ (List.mem_of_getElem? (i := 30) rfl)), (tp_1 _ (List.mem_of_getElem? (i := 2) rfl))⟩, fun h => absurd h (by decide), by decide, mp_65⟩
set_option maxRecDepth 10000 in
theorem ca_106 : CAP (2, 47, 57, 1, 1, 2) := ⟨fun h => absurd h (by decide), fun _ => (tb_3 _ (List.mem_of_getElem? (i := 32) rfl)), by decide, fun h => absurd h (by decide), fun _ => ⟨(tb_3 _ (List.mem_of_getElem? (i := 34) rfl)), (tp_1 _ (List.mem_of_getElem? (i := 3) rfl))⟩, fun h => absurd h (by decide), by decide, mp_57⟩
set_option maxRecDepth 10000 in
theorem ca_107 : CAP (2, 68, 36, 1, 0, 0) := ⟨fun _ => (tb_3 _ (List.mem_of_getElem? (i := 158) rfl)), fun h => absurd h (by decide), by decide, fun h => absurd h (by decide), fun _ => ⟨(tb_3 _ (List.mem_of_getElem? (i := 160) rfl)), (tp_1 _ (List.mem_of_getElem? (i := 10) rfl))⟩, fun h => absurd h (by decide), by decide, mp_36⟩
set_option maxRecDepth 10000 in
theorem ca_108 : CAP (2, 72, 37, 1, 0, 0) := ⟨fun _ => (tb_3 _ (List.mem_of_getElem? (i := 185) rfl)), fun h => absurd h (by decide), by decide, fun h => absurd h (by decide), fun _ => ⟨(tb_3 _ (List.mem_of_getElem? (i := 187) rfl)), (tp_2 _ (List.mem_of_getElem? (i := 0) rfl))⟩, fun h => absurd h (by decide), by decide, mp_37⟩
set_option maxRecDepth 10000 in
theorem ca_109 : CAP (2, 75, 43, 1, 0, 0) := ⟨fun _ => (tb_3 _ (List.mem_of_getElem? (i := 197) rfl)), fun h => absurd h (by decide), by decide, fun h => absurd h (by decide), fun _ => ⟨(tb_3 _ (List.mem_of_getElem? (i := 199) rfl)), (tp_2 _ (List.mem_of_getElem? (i := 3) rfl))⟩, fun h => absurd h (by decide), by decide, mp_43⟩
set_option maxRecDepth 10000 in
theorem ca_110 : CAP (2, 78, 44, 1, 0, 0) := ⟨fun _ => (tb_3 _ (List.mem_of_getElem? (i := 229) rfl)), fun h => absurd h (by decide), by decide, fun h => absurd h (by decide), fun _ => ⟨(tb_3 _ (List.mem_of_getElem? (i := 231) rfl)), (tp_2 _ (List.mem_of_getElem? (i := 11) rfl))⟩, fun h => absurd h (by decide), by decide, mp_44⟩
set_option maxRecDepth 10000 in
theorem ca_111 : CAP (2, 81, 45, 1, 0, 0) := ⟨fun _ => (tb_3 _ (List.mem_of_getElem? (i := 237) rfl)), fun h => absurd h (by decide), by decide, fun h => absurd h (by decide), fun _ => ⟨(tb_3 _ (List.mem_of_getElem? (i := 239) rfl)), (tp_2 _ (List.mem_of_getElem? (i := 13) rfl))⟩, fun h => absurd h (by decide), by decide, mp_45⟩
set_option maxRecDepth 10000 in
theorem ca_112 : CAP (2, 84, 46, 1, 0, 0) := ⟨fun _ => (tb_4 _ (List.mem_of_getElem? (i := 1) rfl)), fun h => absurd h (by decide), by decide, fun h => absurd h (by decide), fun _ => ⟨(tb_4 _ (List.mem_of_getElem? (i := 3) rfl)), (tp_2 _ (List.mem_of_getElem? (i := 14) rfl))⟩, fun h => absurd h (by decide), by decide, mp_46⟩
set_option maxRecDepth 10000 in
theorem ca_113 : CAP (2, 87, 47, 1, 0, 0) := ⟨fun _ => (tb_4 _ (List.mem_of_getElem? (i := 5) rfl)), fun h => absurd h (by decide), by decide, fun h => absurd h (by decide), fun _ => ⟨(tb_4 _ (List.mem_of_getElem? (i := 7) rfl)), (tp_2 _ (List.mem_of_getElem? (i := 15) rfl))⟩, fun h => absurd h (by decide), by decide, mp_47⟩
set_option maxRecDepth 10000 in
theorem ca_114 : CAP (2, 90, 48, 1, 0, 0) := ⟨fun _ => (tb_4 _ (List.mem_of_getElem? (i := 9) rfl)), fun h => absurd h (by decide), by decide, fun h => absurd h (by decide), fun _ => ⟨(tb_4 _ (List.mem_of_getElem? (i := 11) rfl)), (tp_3 _ (List.mem_of_getElem? (i := 0) rfl))⟩, fun h => absurd h (by decide), by decide, mp_48⟩
set_option maxRecDepth 10000 in
theorem ca_115 : CAP (2, 93, 35, 1, 0, 1) := ⟨fun _ => (tb_3 _ (List.mem_of_getElem? (i := 162) rfl)), fun h => absurd h (by decide), by decide, fun h => absurd h (by decide), fun _ => ⟨(tb_3 _ (List.mem_of_getElem? (i := 164) rfl)), (tp_1 _ (List.mem_of_getElem? (i := 11) rfl))⟩, fun h => absurd h (by decide), by decide, mp_35⟩
set_option maxRecDepth 10000 in
theorem ca_116 : CAP (2, 100, 58, 1, 1, 0) := ⟨fun h => absurd h (by decide), fun _ => (tb_3 _ (List.mem_of_getElem? (i := 166) rfl)), by decide, fun h => absurd h (by decide), fun _ => ⟨(tb_3 _ (List.mem_of_getElem? (i := 44) rfl)), (tp_1 _ (List.mem_of_getElem? (i := 4) rfl))⟩, fun h => absurd h (by decide), by decide, mp_58⟩
set_option maxRecDepth 10000 in
theorem ca_117 : CAP (2, 112, 70, 1, 1, 1) := ⟨fun h => absurd h (by decide), fun _ => (tb_3 _ (List.mem_of_getElem? (i := 167) rfl)), by decide, fun h => absurd h (by decide), fun _ => ⟨(tb_3 _ (List.mem_of_getElem? (i := 169) rfl)), (tp_1 _ (List.mem_of_getElem? (i := 12) rfl))⟩, fun h => absurd h (by decide), by decide, mp_70⟩
set_option maxRecDepth 10000 in
theorem ca_118 : CAP (2, 116, 38, 1, 0, 1) := ⟨fun _ => (tb_3 _ (List.mem_of_getElem? (i := 171) rfl)), fun h => absurd h (by decide), by decide, fun h => absurd h (by decide), fun _ => ⟨(tb_3 _ (List.mem_of_getElem? (i := 173) rfl)), (tp_1 _ (List.mem_of_getElem? (i := 13) rfl))⟩, fun h => absurd h (by decide), by decide, mp_38⟩
set_option maxRecDepth 10000 in
theorem ca_119 : CAP (2, 122, 39, 1, 0, 2) := ⟨fun _ => (tb_3 _ (List.mem_of_getElem? (i := 176) rfl)), fun h => absurd h (by decide), by decide, fun h => absurd h (by decide), fun _ => ⟨(tb_3 _ (List.mem_of_getElem? (i := 178) rfl)), (tp_1 _ (List.mem_of_getElem? (i := 14) rfl))⟩, fun h => absurd h (by decide), by decide, mp_39⟩
set_option maxRecDepth 10000 in
theorem ca_120 : CAP (2, 126, 73, 1, 1, 3) := ⟨fun h => absurd h (by decide), fun _ => (tb_3 _ (List.mem_of_getElem? (i := 181) rfl)), by decide, fun h => absurd h (by decide), fun _ => ⟨(tb_3 _ (List.mem_of_getElem? (i := 183) rfl)), (tp_1 _ (List.mem_of_getElem? (i := 15) rfl))⟩, fun h => absurd h (by decide), by decide, mp_73⟩
set_option maxRecDepth 10000 in
theorem ca_121 : CAP (2, 133, 71, 1, 1, 1) := ⟨fun h => absurd h (by decide), fun _ => (tb_3 _ (List.mem_of_getElem? (i := 189) rfl)), by decide, fun h => absurd h (by decide), fun _ => ⟨(tb_3 _ (List.mem_of_getElem? (i := 191) rfl)), (tp_2 _ (List.mem_of_getElem? (i := 1) rfl))⟩, fun h => absurd h (by decide), by decide, mp_71⟩
set_option maxRecDepth 10000 in
theorem ca_122 : CAP (2, 136, 74, 1, 1, 3) := ⟨fun h => absurd h (by decide), fun _ => (tb_3 _ (List.mem_of_getElem? (i := 193) rfl)), by decide, fun h => absurd h (by decide), fun _ => ⟨(tb_3 _ (List.mem_of_getElem? (i := 195) rfl)), (tp_2 _ (List.mem_of_getElem? (i := 2) rfl))⟩, fun h => absurd h (by decide), by decide, mp_74⟩
set_option maxRecDepth 10000 in
theorem ca_123 : CAP (2, 145, 42, 1, 0, 1) := ⟨fun _ => (tb_3 _ (List.mem_of_getElem? (i := 205) rfl)), fun h => absurd h (by decide), by decide, fun h => absurd h (by decide), fun _ => ⟨(tb_3 _ (List.mem_of_getElem? (i := 207) rfl)), (tp_2 _ (List.mem_of_getElem? (i := 5) rfl))⟩, fun h => absurd h (by decide), by decide, mp_42⟩
set_option maxRecDepth 10000 in
theorem ca_124 : CAP (2, 151, 40, 1, 0, 0) := ⟨fun _ => (tb_3 _ (List.mem_of_getElem? (i := 201) rfl)), fun h => absurd h (by decide), by decide, fun h => absurd h (by decide), fun _ => ⟨(tb_3 _ (List.mem_of_getElem? (i := 203) rfl)), (tp_2 _ (List.mem_of_getElem? (i := 4) rfl))⟩, fun h => absurd h (by decide), by decide, mp_40⟩
set_option maxRecDepth 10000 in
theorem ca_125 : CAP (2, 154, 67, 1, 1, 1) := ⟨fun h => absurd h (by decide), fun _ => (tb_3 _ (List.mem_of_getElem? (i := 209) rfl)), by decide, fun h => absurd h (by decide), fun _ => ⟨(tb_3 _ (List.mem_of_getElem? (i := 211) rfl)), (tp_2 _ (List.mem_of_getElem? (i := 6) rfl))⟩, fun h => absurd h (by decide), by decide, mp_67⟩
set_option maxRecDepth 10000 in
theorem ca_126 : CAP (2, 157, 41, 1, 0, 0) := ⟨fun _ => (tb_3 _ (List.mem_of_getElem? (i := 213) rfl)), fun h => absurd h (by decide), by decide, fun h => absurd h (by decide), fun _ => ⟨(tb_3 _ (List.mem_of_getElem? (i := 215) rfl)), (tp_2 _ (List.mem_of_getElem? (i := 7) rfl))⟩, fun h => absurd h (by decide), by decide, mp_41⟩
set_option maxRecDepth 10000 in
theorem ca_127 : CAP (2, 160, 66, 1, 1, 1) := ⟨fun h => absurd h (by decide), fun _ => (tb_3 _ (List.mem_of_getElem? (i := 217) rfl)), by decide, fun h => absurd h (by decide), fun _ => ⟨(tb_3 _ (List.mem_of_getElem? (i := 219) rfl)), (tp_2 _ (List.mem_of_getElem? (i := 8) rfl))⟩, fun h => absurd h (by decide), by decide, mp_66⟩
set_option maxRecDepth 10000 in
theorem ca_128 : CAP (2, 163, 72, 1, 1, 2) := ⟨fun h => absurd h (by decide), fun _ => (tb_3 _ (List.mem_of_getElem? (i := 221) rfl)), by decide, fun h => absurd h (by decide), fun _ => ⟨(tb_3 _ (List.mem_of_getElem? (i := 223) rfl)), (tp_2 _ (List.mem_of_getElem? (i := 9) rfl))⟩, fun h => absurd h (by decide), by decide, mp_72⟩
set_option maxRecDepth 10000 in
theorem ca_129 : CAP (2, 167, 75, 1, 1, 3) := ⟨fun h => absurd h (by decide), fun _ => (tb_3 _ (List.mem_of_getElem? (i := 225) rfl)), by decide, fun h => absurd h (by decide), fun _ => ⟨(tb_3 _ (List.mem_of_getElem? (i := 227) rfl)), (tp_2 _ (List.mem_of_getElem? (i := 10) rfl))⟩, fun h => absurd h (by decide), by decide, mp_75⟩
set_option maxRecDepth 10000 in
theorem ca_130 : CAP (2, 173, 76, 1, 1, 3) := ⟨fun h => absurd h (by decide), fun _ => (tb_3 _ (List.mem_of_getElem? (i := 233) rfl)), by decide, fun h => absurd h (by decide), fun _ => ⟨(tb_3 _ (List.mem_of_getElem? (i := 235) rfl)), (tp_2 _ (List.mem_of_getElem? (i := 12) rfl))⟩, fun h => absurd h (by decide), by decide, mp_76⟩
set_option maxRecDepth 10000 in
theorem ca_131 : CAP (2, 202, 49, 1, 0, 1) := ⟨fun _ => (tb_4 _ (List.mem_of_getElem? (i := 13) rfl)), fun h => absurd h (by decide), by decide, fun h => absurd h (by decide), fun _ => ⟨(tb_4 _ (List.mem_of_getElem? (i := 15) rfl)), (tp_3 _ (List.mem_of_getElem? (i := 1) rfl))⟩, fun h => absurd h (by decide), by decide, mp_49⟩
set_option maxRecDepth 10000 in
theorem ca_132 : CAP (2, 212, 50, 1, 0, 1) := ⟨fun _ => (tb_4 _ (List.mem_of_getElem? (i := 17) rfl)), fun h => absurd h (by decide), by decide, fun h => absurd h (by decide), fun _ => ⟨(tb_4 _ (List.mem_of_getElem? (i := 19) rfl)), (tp_3 _ (List.mem_of_getElem? (i := 2) rfl))⟩, fun h => absurd h (by decide), by decide, mp_50⟩
set_option maxRecDepth 10000 in
theorem ca_133 : CAP (2, 224, 51, 1, 0, 1) := ⟨fun _ => (tb_4 _ (List.mem_of_getElem? (i := 40) rfl)), fun h => absurd h (by decide), by decide, fun h => absurd h (by decide), fun _ => ⟨(tb_4 _ (List.mem_of_getElem? (i := 42) rfl)), (tp_3 _ (List.mem_of_getElem? (i := 7) rfl))⟩, fun h => absurd h (by decide), by decide, mp_51⟩
set_option maxRecDepth 10000 in
theorem ca_134 : CAP (2, 230, 55, 1, 0, 2) := ⟨fun _ => (tb_4 _ (List.mem_of_getElem? (i := 44) rfl)), fun h => absurd h (by decide), by decide, fun h => absurd h (by decide), fun _ => ⟨(tb_4 _ (List.mem_of_getElem? (i := 46) rfl)), (tp_3 _ (List.mem_of_getElem? (i := 8) rfl))⟩, fun h => absurd h (by decide), by decide, mp_55⟩
set_option maxRecDepth 10000 in
theorem ca_135 : CAP (2, 239, 53, 1, 0, 1) := ⟨fun _ => (tb_4 _ (List.mem_of_getElem? (i := 22) rfl)), fun h => absurd h (by decide), by decide, fun h => absurd h (by decide), fun _ => ⟨(tb_4 _ (List.mem_of_getElem? (i := 24) rfl)), (tp_3 _ (List.mem_of_getElem? (i := 3) rfl))⟩, fun h => absurd h (by decide), by decide, mp_53⟩
set_option maxRecDepth 10000 in
theorem ca_136 : CAP (2, 243, 54, 1, 0, 0) := ⟨fun _ => (tb_4 _ (List.mem_of_getElem? (i := 28) rfl)), fun h => absurd h (by decide), by decide, fun h => absurd h (by decide), fun _ => ⟨(tb_4 _ (List.mem_of_getElem? (i := 30) rfl)), (tp_3 _ (List.mem_of_getElem? (i := 4) rfl))⟩, fun h => absurd h (by decide), by decide, mp_54⟩
set_option maxRecDepth 10000 in
theorem ca_137 : CAP (2, 246, 52, 1, 0, 0) := ⟨fun _ => (tb_4 _ (List.mem_of_getElem? (i := 32) rfl)), fun h => absurd h (by decide), by decide, fun h => absurd h (by decide), fun _ => ⟨(tb_4 _ (List.mem_of_getElem? (i := 34) rfl)), (tp_3 _ (List.mem_of_getElem? (i := 5) rfl))⟩, fun h => absurd h (by decide), by decide, mp_52⟩
set_option maxRecDepth 10000 in
theorem ca_138 : CAP (2, 252, 81, 1, 1, 2) := ⟨fun h => absurd h (by decide), fun _ => (tb_4 _ (List.mem_of_getElem? (i := 36) rfl)), by decide, fun h => absurd h (by decide), fun _ => ⟨(tb_4 _ (List.mem_of_getElem? (i := 38) rfl)), (tp_3 _ (List.mem_of_getElem? (i := 6) rfl))⟩, fun h => absurd h (by decide), by decide, mp_81⟩
set_option maxRecDepth 10000 in
theorem ca_139 : CAP (3, 38, 58, 1, 0, 0) := ⟨fun _ => (tb_3 _ (List.mem_of_getElem? (i := 42) rfl)), fun h => absurd h (by decide), by decide, fun h => absurd h (by decide), fun _ => ⟨(tb_3 _ (List.mem_of_getElem? (i := 44) rfl)), (tp_1 _ (List.mem_of_getElem? (i := 4) rfl))⟩, fun h => absurd h (by decide), by decide, mp_58⟩
set_option maxRecDepth 10000 in
theorem ca_140 : CAP (3, 44, 59, 1, 0, 0) := ⟨fun _ => (tb_3 _ (List.mem_of_getElem? (i := 46) rfl)), fun h => absurd h (by decide), by decide, fun h => absurd h (by decide), fun _ => ⟨(tb_3 _ (List.mem_of_getElem? (i := 48) rfl)), (tp_1 _ (List.mem_of_getElem? (i := 5) rfl))⟩, fun h => absurd h (by decide), by decide, mp_59⟩
set_option maxRecDepth 10000 in
theorem ca_141 : CAP (3, 47, 61, 1, 0, 0) := ⟨fun _ => (tb_3 _ (List.mem_of_getElem? (i := 108) rfl)), fun h => absurd h (by decide), by decide, fun h => absurd h (by decide), fun _ => ⟨(tb_3 _ (List.mem_of_getElem? (i := 110) rfl)), (tp_1 _ (List.mem_of_getElem? (i := 7) rfl))⟩, fun h => absurd h (by decide), by decide, mp_61⟩
set_option maxRecDepth 10000 in
theorem ca_142 : CAP (3, 50, 62, 1, 0, 0) := ⟨fun _ => (tb_3 _ (List.mem_of_getElem? (i := 115) rfl)), fun h => absurd h (by decide), by decide, fun h => absurd h (by decide), fun _ => ⟨(tb_3 _ (List.mem_of_getElem? (i := 117) rfl)), (tp_1 _ (List.mem_of_getElem? (i := 8) rfl))⟩, fun h => absurd h (by decide), by decide, mp_62⟩
set_option maxRecDepth 10000 in
theorem ca_143 : CAP (3, 64, 60, 1, 0, 1) := ⟨fun _ => (tb_3 _ (List.mem_of_getElem? (i := 52) rfl)), fun h => absurd h (by decide), by decide, fun h => absurd h (by decide), fun _ => ⟨(tb_3 _ (List.mem_of_getElem? (i := 54) rfl)), (tp_1 _ (List.mem_of_getElem? (i := 6) rfl))⟩, fun h => absurd h (by decide), by decide, mp_60⟩
set_option maxRecDepth 10000 in
theorem ca_144 : CAP (3, 74, 247, 1, 0, 0) := ⟨fun _ => (tb_3 _ (List.mem_of_getElem? (i := 56) rfl)), fun h => absurd h (by decide), by decide, fun h => absurd h (by decide), fun _ => ⟨(tb_3 _ (List.mem_of_getElem? (i := 57) rfl)), (tb_3 _ (List.mem_of_getElem? (i := 58) rfl))⟩, fun h => absurd h (by decide), by decide, mp_247⟩
set_option maxRecDepth 10000 in
theorem ca_145 : CAP (3, 79, 248, 1, 0, 1) := ⟨fun _ => (tb_3 _ (List.mem_of_getElem? (i := 66) rfl)), fun h => absurd h (by decide), by decide, fun h => absurd h (by decide), fun _ => ⟨(tb_3 _ (List.mem_of_getElem? (i := 67) rfl)), (tb_3 _ (List.mem_of_getElem? (i := 68) rfl))⟩, fun h => absurd h (by decide), by decide, mp_248⟩
set_option maxRecDepth 10000 in
theorem ca_146 : CAP (3, 114, 63, 1, 0, 1) := ⟨fun _ => (tb_3 _ (List.mem_of_getElem? (i := 135) rfl)), fun h => absurd h (by decide), by decide, fun h => absurd h (by decide), fun _ => ⟨(tb_3 _ (List.mem_of_getElem? (i := 137) rfl)), (tp_1 _ (List.mem_of_getElem? (i := 9) rfl))⟩, fun h => absurd h (by decide), by decide, mp_63⟩
set_option maxRecDepth 10000 in
theorem ca_147 : CAP (4, 56, 80, 2, 1, 0) := ⟨fun h => absurd h (by decide), fun _ => (tb_1 _ (List.mem_of_getElem? (i := 87) rfl)), by decide, fun h => absurd h (by decide), fun h => absurd h (by decide), fun _ => ⟨(tb_1 _ (List.mem_of_getElem? (i := 88) rfl)), by decide +kernel, by decide +kernel⟩, by decide, mp_80⟩
set_option maxRecDepth 10000 in
theorem ca_148 : CAP (4, 84, 68, 1, 0, 1) := ⟨fun _ => (tb_4 _ (List.mem_of_getElem? (i := 96) rfl)), fun h => absurd h (by decide), by decide, fun h => absurd h (by decide), fun _ => ⟨(tb_4 _ (List.mem_of_getElem? (i := 79) rfl)), (tp_3 _ (List.mem_of_getElem? (i := 12) rfl))⟩, fun h => absurd h (by decide), by decide, mp_68⟩
set_option maxRecDepth 10000 in
theorem ca_149 : CAP (4, 88, 66, 1, 0, 1) := ⟨fun _ => (tb_4 _ (List.mem_of_getElem? (i := 97) rfl)), fun h => absurd h (by decide), by decide, fun h => absurd h (by decide), fun _ => ⟨(tb_3 _ (List.mem_of_getElem? (i := 219) rfl)), (tp_2 _ (List.mem_of_getElem? (i := 8) rfl))⟩, fun h => absurd h (by decide), by decide, mp_66⟩
set_option maxRecDepth 10000 in
theorem ca_150 : CAP (5, 41, 83, 0, 0, 3) := ⟨fun _ => (tb_4 _ (List.mem_of_getElem? (i := 113) rfl)), fun h => absurd h (by decide), by decide, fun _ => (tb_4 _ (List.mem_of_getElem? (i := 114) rfl)), fun h => absurd h (by decide), fun h => absurd h (by decide), by decide, mp_83⟩
set_option maxRecDepth 10000 in
theorem ca_151 : CAP (6, 68, 78, 1, 1, 1) := ⟨fun h => absurd h (by decide), fun _ => (tb_4 _ (List.mem_of_getElem? (i := 98) rfl)), by decide, fun h => absurd h (by decide), fun _ => ⟨(tb_4 _ (List.mem_of_getElem? (i := 100) rfl)), (tp_4 _ (List.mem_of_getElem? (i := 0) rfl))⟩, fun h => absurd h (by decide), by decide, mp_78⟩
set_option maxRecDepth 10000 in
theorem ca_152 : CAP (6, 72, 93, 1, 0, 1) := ⟨fun _ => (tb_4 _ (List.mem_of_getElem? (i := 143) rfl)), fun h => absurd h (by decide), by decide, fun h => absurd h (by decide), fun _ => ⟨(tb_4 _ (List.mem_of_getElem? (i := 83) rfl)), (tp_3 _ (List.mem_of_getElem? (i := 13) rfl))⟩, fun h => absurd h (by decide), by decide, mp_93⟩
set_option maxRecDepth 10000 in
theorem ca_153 : CAP (6, 75, 88, 1, 0, 1) := ⟨fun _ => (tb_4 _ (List.mem_of_getElem? (i := 131) rfl)), fun h => absurd h (by decide), by decide, fun h => absurd h (by decide), fun _ => ⟨(tb_4 _ (List.mem_of_getElem? (i := 133) rfl)), (tp_4 _ (List.mem_of_getElem? (i := 4) rfl))⟩, fun h => absurd h (by decide), by decide, mp_88⟩
set_option maxRecDepth 10000 in
theorem ca_154 : CAP (6, 79, 89, 1, 0, 1) := ⟨fun _ => (tb_4 _ (List.mem_of_getElem? (i := 135) rfl)), fun h => absurd h (by decide), by decide, fun h => absurd h (by decide), fun _ => ⟨(tb_4 _ (List.mem_of_getElem? (i := 137) rfl)), (tp_4 _ (List.mem_of_getElem? (i := 5) rfl))⟩, fun h => absurd h (by decide), by decide, mp_89⟩
set_option maxRecDepth 10000 in
theorem ca_155 : CAP (6, 85, 87, 1, 0, 1) := ⟨fun _ => (tb_4 _ (List.mem_of_getElem? (i := 196) rfl)), fun h => absurd h (by decide), by decide, fun h => absurd h (by decide), fun _ => ⟨(tb_4 _ (List.mem_of_getElem? (i := 164) rfl)), (tp_4 _ (List.mem_of_getElem? (i := 9) rfl))⟩, fun h => absurd h (by decide), by decide, mp_87⟩
set_option maxRecDepth 10000 in
theorem ca_156 : CAP (6, 88, 90, 1, 0, 1) := ⟨fun _ => (tb_4 _ (List.mem_of_getElem? (i := 139) rfl)), fun h => absurd h (by decide), by decide, fun h => absurd h (by decide), fun _ => ⟨(tb_4 _ (List.mem_of_getElem? (i := 141) rfl)), (tp_4 _ (List.mem_of_getElem? (i := 6) rfl))⟩, fun h => absurd h (by decide), by decide, mp_90⟩
set_option maxRecDepth 10000 in
theorem ca_157 : CAP (6, 91, 96, 1, 0, 3) := ⟨fun _ => (tb_4 _ (List.mem_of_getElem? (i := 85) rfl)), fun h => absurd h (by decide), by decide, fun h => absurd h (by decide), fun _ => ⟨(tb_4 _ (List.mem_of_getElem? (i := 87) rfl)), (tp_3 _ (List.mem_of_getElem? (i := 14) rfl))⟩, fun h => absurd h (by decide), by decide, mp_96⟩
set_option maxRecDepth 10000 in
theorem ca_158 : CAP (6, 97, 77, 1, 1, 1) := ⟨fun h => absurd h (by decide), fun _ => (tb_4 _ (List.mem_of_getElem? (i := 92) rfl)), by decide, fun h => absurd h (by decide), fun _ => ⟨(tb_4 _ (List.mem_of_getElem? (i := 94) rfl)), (tp_3 _ (List.mem_of_getElem? (i := 15) rfl))⟩, fun h => absurd h (by decide), by decide, mp_77⟩
set_option maxRecDepth 10000 in
theorem ca_159 : CAP (6, 120, 68, 1, 1, 1) := ⟨fun h => absurd h (by decide), fun _ => (tb_4 _ (List.mem_of_getElem? (i := 89) rfl)), by decide, fun h => absurd h (by decide), fun _ => ⟨(tb_4 _ (List.mem_of_getElem? (i := 79) rfl)), (tp_3 _ (List.mem_of_getElem? (i := 12) rfl))⟩, fun h => absurd h (by decide), by decide, mp_68⟩
set_option maxRecDepth 10000 in
theorem ca_160 : CAP (6, 123, 67, 1, 1, 1) := ⟨fun h => absurd h (by decide), fun _ => (tb_4 _ (List.mem_of_getElem? (i := 90) rfl)), by decide, fun h => absurd h (by decide), fun _ => ⟨(tb_3 _ (List.mem_of_getElem? (i := 211) rfl)), (tp_2 _ (List.mem_of_getElem? (i := 6) rfl))⟩, fun h => absurd h (by decide), by decide, mp_67⟩
set_option maxRecDepth 10000 in
theorem ca_161 : CAP (6, 126, 97, 1, 0, 1) := ⟨fun _ => (tb_4 _ (List.mem_of_getElem? (i := 102) rfl)), fun h => absurd h (by decide), by decide, fun h => absurd h (by decide), fun _ => ⟨(tb_4 _ (List.mem_of_getElem? (i := 104) rfl)), (tp_4 _ (List.mem_of_getElem? (i := 1) rfl))⟩, fun h => absurd h (by decide), by decide, mp_97⟩
set_option maxRecDepth 10000 in
theorem ca_162 : CAP (6, 135, 82, 1, 1, 1) := ⟨fun h => absurd h (by decide), fun _ => (tb_4 _ (List.mem_of_getElem? (i := 107) rfl)), by decide, fun h => absurd h (by decide), fun _ => ⟨(tb_4 _ (List.mem_of_getElem? (i := 109) rfl)), (tp_4 _ (List.mem_of_getElem? (i := 2) rfl))⟩, fun h => absurd h (by decide), by decide, mp_82⟩
set_option maxRecDepth 10000 in
theorem ca_163 : CAP (6, 145, 100, 1, 0, 3) := ⟨fun _ => (tb_5 _ (List.mem_of_getElem? (i := 144) rfl)), fun h => absurd h (by decide), by decide, fun h => absurd h (by decide), fun _ => ⟨(tb_5 _ (List.mem_of_getElem? (i := 146) rfl)), (tp_6 _ (List.mem_of_getElem? (i := 9) rfl))⟩, fun h => absurd h (by decide), by decide, mp_100⟩
set_option maxRecDepth 10000 in
theorem ca_164 : CAP (6, 156, 102, 1, 0, 2) := ⟨fun _ => (tb_4 _ (List.mem_of_getElem? (i := 205) rfl)), fun h => absurd h (by decide), by decide, fun h => absurd h (by decide), fun _ => ⟨(tb_4 _ (List.mem_of_getElem? (i := 207) rfl)), (tp_5 _ (List.mem_of_getElem? (i := 2) rfl))⟩, fun h => absurd h (by decide), by decide, mp_102⟩
set_option maxRecDepth 10000 in
theorem ca_165 : CAP (6, 160, 105, 1, 0, 1) := ⟨fun _ => (tb_5 _ (List.mem_of_getElem? (i := 52) rfl)), fun h => absurd h (by decide), by decide, fun h => absurd h (by decide), fun _ => ⟨(tb_5 _ (List.mem_of_getElem? (i := 54) rfl)), (tp_5 _ (List.mem_of_getElem? (i := 14) rfl))⟩, fun h => absurd h (by decide), by decide, mp_105⟩
set_option maxRecDepth 10000 in
theorem ca_166 : CAP (7, 25, 110, 1, 0, 2) := ⟨fun _ => (tb_4 _ (List.mem_of_getElem? (i := 158) rfl)), fun h => absurd h (by decide), by decide, fun h => absurd h (by decide), fun _ => ⟨(tb_4 _ (List.mem_of_getElem? (i := 160) rfl)), (tp_4 _ (List.mem_of_getElem? (i := 8) rfl))⟩, fun h => absurd h (by decide), by decide, mp_110⟩
set_option maxRecDepth 10000 in
theorem ca_167 : CAP (7, 41, 69, 1, 1, 1) := ⟨fun h => absurd h (by decide), fun _ => (tb_4 _ (List.mem_of_getElem? (i := 180) rfl)), by decide, fun h => absurd h (by decide), fun _ => ⟨(tb_4 _ (List.mem_of_getElem? (i := 182) rfl)), (tp_4 _ (List.mem_of_getElem? (i := 12) rfl))⟩, fun h => absurd h (by decide), by decide, mp_69⟩
set_option maxRecDepth 10000 in
theorem ca_168 : CAP (7, 47, 113, 1, 0, 3) := ⟨fun _ => (tb_4 _ (List.mem_of_getElem? (i := 184) rfl)), fun h => absurd h (by decide), by decide, fun h => absurd h (by decide), fun _ => ⟨(tb_4 _ (List.mem_of_getElem? (i := 186) rfl)), (tp_4 _ (List.mem_of_getElem? (i := 13) rfl))⟩, fun h => absurd h (by decide), by decide, mp_113⟩
set_option maxRecDepth 10000 in
theorem ca_169 : CAP (7, 51, 68, 1, 1, 1) := ⟨fun h => absurd h (by decide), fun _ => (tb_4 _ (List.mem_of_getElem? (i := 173) rfl)), by decide, fun h => absurd h (by decide), fun _ => ⟨(tb_4 _ (List.mem_of_getElem? (i := 79) rfl)), (tp_3 _ (List.mem_of_getElem? (i := 12) rfl))⟩, fun h => absurd h (by decide), by decide, mp_68⟩
set_option maxRecDepth 10000 in
theorem ca_170 : CAP (7, 54, 101, 1, 1, 1) := ⟨fun h => absurd h (by decide), fun _ => (tb_4 _ (List.mem_of_getElem? (i := 201) rfl)), by decide, fun h => absurd h (by decide), fun _ => ⟨(tb_4 _ (List.mem_of_getElem? (i := 203) rfl)), (tp_5 _ (List.mem_of_getElem? (i := 1) rfl))⟩, fun h => absurd h (by decide), by decide, mp_101⟩
set_option maxRecDepth 10000 in
theorem ca_171 : CAP (7, 58, 115, 1, 0, 1) := ⟨fun _ => (tb_4 _ (List.mem_of_getElem? (i := 209) rfl)), fun h => absurd h (by decide), by decide, fun h => absurd h (by decide), fun _ => ⟨(tb_4 _ (List.mem_of_getElem? (i := 211) rfl)), (tp_5 _ (List.mem_of_getElem? (i := 3) rfl))⟩, fun h => absurd h (by decide), by decide, mp_115⟩
set_option maxRecDepth 10000 in
theorem ca_172 : CAP (7, 68, 87, 1, 1, 1) := ⟨fun h => absurd h (by decide), fun _ => (tb_4 _ (List.mem_of_getElem? (i := 162) rfl)), by decide, fun h => absurd h (by decide), fun _ => ⟨(tb_4 _ (List.mem_of_getElem? (i := 164) rfl)), (tp_4 _ (List.mem_of_getElem? (i := 9) rfl))⟩, fun h => absurd h (by decide), by decide, mp_87⟩
set_option maxRecDepth 10000 in
theorem ca_173 : CAP (7, 71, 111, 1, 0, 2) := ⟨fun _ => (tb_4 _ (List.mem_of_getElem? (i := 166) rfl)), fun h => absurd h (by decide), by decide, fun h => absurd h (by decide), fun _ => ⟨(tb_4 _ (List.mem_of_getElem? (i := 168) rfl)), (tp_4 _ (List.mem_of_getElem? (i := 10) rfl))⟩, fun h => absurd h (by decide), by decide, mp_111⟩
set_option maxRecDepth 10000 in
theorem ca_174 : CAP (7, 77, 93, 1, 1, 1) := ⟨fun h => absurd h (by decide), fun _ => (tb_4 _ (List.mem_of_getElem? (i := 172) rfl)), by decide, fun h => absurd h (by decide), fun _ => ⟨(tb_4 _ (List.mem_of_getElem? (i := 83) rfl)), (tp_3 _ (List.mem_of_getElem? (i := 13) rfl))⟩, fun h => absurd h (by decide), by decide, mp_93⟩
set_option maxRecDepth 10000 in
theorem ca_175 : CAP (7, 93, 67, 1, 1, 1) := ⟨fun h => absurd h (by decide), fun _ => (tb_4 _ (List.mem_of_getElem? (i := 175) rfl)), by decide, fun h => absurd h (by decide), fun _ => ⟨(tb_3 _ (List.mem_of_getElem? (i := 211) rfl)), (tp_2 _ (List.mem_of_getElem? (i := 6) rfl))⟩, fun h => absurd h (by decide), by decide, mp_67⟩
set_option maxRecDepth 10000 in
theorem ca_176 : CAP (7, 96, 112, 1, 0, 4) := ⟨fun _ => (tb_4 _ (List.mem_of_getElem? (i := 176) rfl)), fun h => absurd h (by decide), by decide, fun h => absurd h (by decide), fun _ => ⟨(tb_4 _ (List.mem_of_getElem? (i := 178) rfl)), (tp_4 _ (List.mem_of_getElem? (i := 11) rfl))⟩, fun h => absurd h (by decide), by decide, mp_112⟩
set_option maxRecDepth 10000 in
theorem ca_177 : CAP (7, 109, 88, 1, 1, 1) := ⟨fun h => absurd h (by decide), fun _ => (tb_4 _ (List.mem_of_getElem? (i := 170) rfl)), by decide, fun h => absurd h (by decide), fun _ => ⟨(tb_4 _ (List.mem_of_getElem? (i := 133) rfl)), (tp_4 _ (List.mem_of_getElem? (i := 4) rfl))⟩, fun h => absurd h (by decide), by decide, mp_88⟩
set_option maxRecDepth 10000 in
theorem ca_178 : CAP (7, 112, 89, 1, 1, 1) := ⟨fun h => absurd h (by decide), fun _ => (tb_4 _ (List.mem_of_getElem? (i := 171) rfl)), by decide, fun h => absurd h (by decide), fun _ => ⟨(tb_4 _ (List.mem_of_getElem? (i := 137) rfl)), (tp_4 _ (List.mem_of_getElem? (i := 5) rfl))⟩, fun h => absurd h (by decide), by decide, mp_89⟩
set_option maxRecDepth 10000 in
theorem ca_179 : CAP (7, 118, 114, 1, 0, 4) := ⟨fun _ => (tb_4 _ (List.mem_of_getElem? (i := 188) rfl)), fun h => absurd h (by decide), by decide, fun h => absurd h (by decide), fun _ => ⟨(tb_4 _ (List.mem_of_getElem? (i := 190) rfl)), (tp_4 _ (List.mem_of_getElem? (i := 14) rfl))⟩, fun h => absurd h (by decide), by decide, mp_114⟩
set_option maxRecDepth 10000 in
theorem ca_180 : CAP (7, 122, 94, 1, 1, 1) := ⟨fun h => absurd h (by decide), fun _ => (tb_4 _ (List.mem_of_getElem? (i := 197) rfl)), by decide, fun h => absurd h (by decide), fun _ => ⟨(tb_4 _ (List.mem_of_getElem? (i := 199) rfl)), (tp_5 _ (List.mem_of_getElem? (i := 0) rfl))⟩, fun h => absurd h (by decide), by decide, mp_94⟩
set_option maxRecDepth 10000 in
theorem ca_181 : CAP (7, 126, 91, 1, 1, 1) := ⟨fun h => absurd h (by decide), fun _ => (tb_4 _ (List.mem_of_getElem? (i := 192) rfl)), by decide, fun h => absurd h (by decide), fun _ => ⟨(tb_4 _ (List.mem_of_getElem? (i := 194) rfl)), (tp_4 _ (List.mem_of_getElem? (i := 15) rfl))⟩, fun h => absurd h (by decide), by decide, mp_91⟩
set_option maxRecDepth 10000 in
theorem ca_182 : CAP (7, 135, 90, 1, 1, 1) := ⟨fun h => absurd h (by decide), fun _ => (tb_4 _ (List.mem_of_getElem? (i := 213) rfl)), by decide, fun h => absurd h (by decide), fun _ => ⟨(tb_4 _ (List.mem_of_getElem? (i := 141) rfl)), (tp_4 _ (List.mem_of_getElem? (i := 6) rfl))⟩, fun h => absurd h (by decide), by decide, mp_90⟩
set_option maxRecDepth 10000 in
theorem ca_183 : CAP (7, 155, 78, 1, 1, 1) := ⟨fun h => absurd h (by decide), fun _ => (tb_5 _ (List.mem_of_getElem? (i := 10) rfl)), by decide, fun h => absurd h (by decide), fun _ => ⟨(tb_4 _ (List.mem_of_getElem? (i := 100) rfl)), (tp_4 _ (List.mem_of_getElem? (i := 0) rfl))⟩, fun h => absurd h (by decide), by decide, mp_78⟩
set_option maxRecDepth 10000 in
theorem ca_184 : CAP (7, 161, 117, 1, 0, 3) := ⟨fun _ => (tb_5 _ (List.mem_of_getElem? (i := 11) rfl)), fun h => absurd h (by decide), by decide, fun h => absurd h (by decide), fun _ => ⟨(tb_5 _ (List.mem_of_getElem? (i := 13) rfl)), (tp_5 _ (List.mem_of_getElem? (i := 8) rfl))⟩, fun h => absurd h (by decide), by decide, mp_117⟩
set_option maxRecDepth 10000 in
theorem ca_185 : CAP (8, 21, 67, 1, 1, 1) := ⟨fun h => absurd h (by decide), fun _ => (tb_5 _ (List.mem_of_getElem? (i := 27) rfl)), by decide, fun h => absurd h (by decide), fun _ => ⟨(tb_3 _ (List.mem_of_getElem? (i := 211) rfl)), (tp_2 _ (List.mem_of_getElem? (i := 6) rfl))⟩, fun h => absurd h (by decide), by decide, mp_67⟩
set_option maxRecDepth 10000 in
theorem ca_186 : CAP (8, 27, 87, 1, 1, 1) := ⟨fun h => absurd h (by decide), fun _ => (tb_5 _ (List.mem_of_getElem? (i := 28) rfl)), by decide, fun h => absurd h (by decide), fun _ => ⟨(tb_4 _ (List.mem_of_getElem? (i := 164) rfl)), (tp_4 _ (List.mem_of_getElem? (i := 9) rfl))⟩, fun h => absurd h (by decide), by decide, mp_87⟩
set_option maxRecDepth 10000 in
theorem ca_187 : CAP (8, 33, 95, 1, 1, 2) := ⟨fun h => absurd h (by decide), fun _ => (tb_5 _ (List.mem_of_getElem? (i := 29) rfl)), by decide, fun h => absurd h (by decide), fun _ => ⟨(tb_5 _ (List.mem_of_getElem? (i := 31) rfl)), (tp_5 _ (List.mem_of_getElem? (i := 11) rfl))⟩, fun h => absurd h (by decide), by decide, mp_95⟩
set_option maxRecDepth 10000 in
theorem ca_188 : CAP (9, 35, 122, 0, 0, 2) := ⟨fun _ => (tb_5 _ (List.mem_of_getElem? (i := 64) rfl)), fun h => absurd h (by decide), by decide, fun _ => (tb_5 _ (List.mem_of_getElem? (i := 65) rfl)), fun h => absurd h (by decide), fun h => absurd h (by decide), by decide, mp_122⟩
set_option maxRecDepth 10000 in
theorem ca_189 : CAP (9, 39, 123, 1, 0, 2) := ⟨fun _ => (tb_5 _ (List.mem_of_getElem? (i := 72) rfl)), fun h => absurd h (by decide), by decide, fun h => absurd h (by decide), fun _ => ⟨(tb_5 _ (List.mem_of_getElem? (i := 74) rfl)), (tp_6 _ (List.mem_of_getElem? (i := 1) rfl))⟩, fun h => absurd h (by decide), by decide, mp_123⟩
set_option maxRecDepth 10000 in
theorem ca_190 : CAP (9, 46, 124, 1, 0, 2) := ⟨fun _ => (tb_5 _ (List.mem_of_getElem? (i := 77) rfl)), fun h => absurd h (by decide), by decide, fun h => absurd h (by decide), fun _ => ⟨(tb_5 _ (List.mem_of_getElem? (i := 79) rfl)), (tp_6 _ (List.mem_of_getElem? (i := 2) rfl))⟩, fun h => absurd h (by decide), by decide, mp_124⟩
set_option maxRecDepth 10000 in
theorem ca_191 : CAP (9, 55, 87, 1, 1, 1) := ⟨fun h => absurd h (by decide), fun _ => (tb_5 _ (List.mem_of_getElem? (i := 67) rfl)), by decide, fun h => absurd h (by decide), fun _ => ⟨(tb_4 _ (List.mem_of_getElem? (i := 164) rfl)), (tp_4 _ (List.mem_of_getElem? (i := 9) rfl))⟩, fun h => absurd h (by decide), by decide, mp_87⟩
set_option maxRecDepth 10000 in
theorem ca_192 : CAP (9, 62, 98, 1, 1, 2) := ⟨fun h => absurd h (by decide), fun _ => (tb_5 _ (List.mem_of_getElem? (i := 68) rfl)), by decide, fun h => absurd h (by decide), fun _ => ⟨(tb_5 _ (List.mem_of_getElem? (i := 70) rfl)), (tp_6 _ (List.mem_of_getElem? (i := 0) rfl))⟩, fun h => absurd h (by decide), by decide, mp_98⟩
set_option maxRecDepth 10000 in
theorem ca_193 : CAP (10, 31, 128, 1, 0, 0) := ⟨fun _ => (tb_5 _ (List.mem_of_getElem? (i := 135) rfl)), fun h => absurd h (by decide), by decide, fun h => absurd h (by decide), fun _ => ⟨(tb_5 _ (List.mem_of_getElem? (i := 137) rfl)), (tp_6 _ (List.mem_of_getElem? (i := 7) rfl))⟩, fun h => absurd h (by decide), by decide, mp_128⟩
set_option maxRecDepth 10000 in
theorem ca_194 : CAP (11, 17, 84, 2, 1, 1) := ⟨fun h => absurd h (by decide), fun _ => (tb_2 _ (List.mem_of_getElem? (i := 82) rfl)), by decide, fun h => absurd h (by decide), fun h => absurd h (by decide), fun _ => ⟨(tb_2 _ (List.mem_of_getElem? (i := 9) rfl)), by decide +kernel, by decide +kernel⟩, by decide, mp_84⟩
set_option maxRecDepth 10000 in
theorem ca_195 : CAP (11, 27, 86, 1, 1, 1) := ⟨fun h => absurd h (by decide), fun _ => (tb_5 _ (List.mem_of_getElem? (i := 41) rfl)), by decide, fun h => absurd h (by decide), fun _ => ⟨(tb_4 _ (List.mem_of_getElem? (i := 230) rfl)), (tp_5 _ (List.mem_of_getElem? (i := 5) rfl))⟩, fun h => absurd h (by decide), by decide, mp_86⟩
set_option maxRecDepth 10000 in
theorem ca_196 : CAP (12, 157, 177, 1, 0, 0) := ⟨fun _ => (tb_6 _ (List.mem_of_getElem? (i := 36) rfl)), fun h => absurd h (by decide), by decide, fun h => absurd h (by decide), fun _ => ⟨(tb_6 _ (List.mem_of_getElem? (i := 38) rfl)), (tp_6 _ (List.mem_of_getElem? (i := 14) rfl))⟩, fun h => absurd h (by decide), by decide, mp_177⟩
set_option maxRecDepth 10000 in
theorem ca_197 : CAP (12, 172, 138, 1, 0, 0) := ⟨fun _ => (tb_7 _ (List.mem_of_getElem? (i := 36) rfl)), fun h => absurd h (by decide), by decide, fun h => absurd h (by decide), fun _ => ⟨(tb_7 _ (List.mem_of_getElem? (i := 38) rfl)), (tp_7 _ (List.mem_of_getElem? (i := 0) rfl))⟩, fun h => absurd h (by decide), by decide, mp_138⟩
set_option maxRecDepth 10000 in
theorem ca_198 : CAP (12, 182, 139, 0, 0, 1) := ⟨fun _ => (tb_7 _ (List.mem_of_getElem? (i := 40) rfl)), fun h => absurd h (by decide), by decide, fun _ => (tb_7 _ (List.mem_of_getElem? (i := 41) rfl)), fun h => absurd h (by decide), fun h => absurd h (by decide), by decide, mp_139⟩
set_option maxRecDepth 10000 in
theorem ca_199 : CAP (12, 186, 143, 1, 0, 0) := ⟨fun _ => (tb_7 _ (List.mem_of_getElem? (i := 43) rfl)), fun h => absurd h (by decide), by decide, fun h => absurd h (by decide), fun _ => ⟨(tb_7 _ (List.mem_of_getElem? (i := 45) rfl)), (tp_7 _ (List.mem_of_getElem? (i := 1) rfl))⟩, fun h => absurd h (by decide), by decide, mp_143⟩
set_option maxRecDepth 10000 in
theorem ca_200 : CAP (12, 192, 144, 1, 0, 0) := ⟨fun _ => (tb_7 _ (List.mem_of_getElem? (i := 50) rfl)), fun h => absurd h (by decide), by decide, fun h => absurd h (by decide), fun _ => ⟨(tb_7 _ (List.mem_of_getElem? (i := 52) rfl)), (tp_7 _ (List.mem_of_getElem? (i := 2) rfl))⟩, fun h => absurd h (by decide), by decide, mp_144⟩
set_option maxRecDepth 10000 in
theorem ca_201 : CAP (12, 195, 140, 0, 0, 1) := ⟨fun _ => (tb_7 _ (List.mem_of_getElem? (i := 54) rfl)), fun h => absurd h (by decide), by decide, fun _ => (tb_7 _ (List.mem_of_getElem? (i := 55) rfl)), fun h => absurd h (by decide), fun h => absurd h (by decide), by decide, mp_140⟩
set_option maxRecDepth 10000 in
theorem ca_202 : CAP (12, 198, 142, 1, 0, 1) := ⟨fun _ => (tb_7 _ (List.mem_of_getElem? (i := 57) rfl)), fun h => absurd h (by decide), by decide, fun h => absurd h (by decide), fun _ => ⟨(tb_7 _ (List.mem_of_getElem? (i := 59) rfl)), (tp_7 _ (List.mem_of_getElem? (i := 3) rfl))⟩, fun h => absurd h (by decide), by decide, mp_142⟩
set_option maxRecDepth 10000 in
theorem ca_203 : CAP (12, 204, 247, 1, 0, 0) := ⟨fun _ => (tb_7 _ (List.mem_of_getElem? (i := 48) rfl)), fun h => absurd h (by decide), by decide, fun h => absurd h (by decide), fun _ => ⟨(tb_3 _ (List.mem_of_getElem? (i := 57) rfl)), (tb_3 _ (List.mem_of_getElem? (i := 58) rfl))⟩, fun h => absurd h (by decide), by decide, mp_247⟩
set_option maxRecDepth 10000 in
theorem ca_204 : CAP (12, 209, 248, 1, 0, 1) := ⟨fun _ => (tb_7 _ (List.mem_of_getElem? (i := 49) rfl)), fun h => absurd h (by decide), by decide, fun h => absurd h (by decide), fun _ => ⟨(tb_3 _ (List.mem_of_getElem? (i := 67) rfl)), (tb_3 _ (List.mem_of_getElem? (i := 68) rfl))⟩, fun h => absurd h (by decide), by decide, mp_248⟩
set_option maxRecDepth 10000 in
theorem ca_205 : CAP (12, 219, 141, 1, 0, 0) := ⟨fun _ => (tb_7 _ (List.mem_of_getElem? (i := 32) rfl)), fun h => absurd h (by decide), by decide, fun h => absurd h (by decide), fun _ => ⟨(tb_7 _ (List.mem_of_getElem? (i := 34) rfl)), (tp_6 _ (List.mem_of_getElem? (i := 15) rfl))⟩, fun h => absurd h (by decide), by decide, mp_141⟩
set_option maxRecDepth 10000 in
theorem ca_206 : CAP (12, 222, 145, 1, 0, 1) := ⟨fun _ => (tb_7 _ (List.mem_of_getElem? (i := 65) rfl)), fun h => absurd h (by decide), by decide, fun h => absurd h (by decide), fun _ => ⟨(tb_7 _ (List.mem_of_getElem? (i := 67) rfl)), (tp_7 _ (List.mem_of_getElem? (i := 5) rfl))⟩, fun h => absurd h (by decide), by decide, mp_145⟩
set_option maxRecDepth 10000 in
theorem ca_207 : CAP (12, 225, 150, 0, 0, 4) := ⟨fun _ => (tb_7 _ (List.mem_of_getElem? (i := 81) rfl)), fun h => absurd h (by decide), by decide, fun _ => (tb_7 _ (List.mem_of_getElem? (i := 82) rfl)), fun h => absurd h (by decide), fun h => absurd h (by decide), by decide, mp_150⟩
set_option maxRecDepth 10000 in
theorem ca_208 : CAP (12, 229, 155, 1, 0, 1) := ⟨fun _ => (tb_7 _ (List.mem_of_getElem? (i := 73) rfl)), fun h => absurd h (by decide), by decide, fun h => absurd h (by decide), fun _ => ⟨(tb_7 _ (List.mem_of_getElem? (i := 75) rfl)), (tp_7 _ (List.mem_of_getElem? (i := 7) rfl))⟩, fun h => absurd h (by decide), by decide, mp_155⟩
set_option maxRecDepth 10000 in
theorem ca_209 : CAP (12, 233, 152, 1, 0, 3) := ⟨fun _ => (tb_7 _ (List.mem_of_getElem? (i := 100) rfl)), fun h => absurd h (by decide), by decide, fun h => absurd h (by decide), fun _ => ⟨(tb_7 _ (List.mem_of_getElem? (i := 102) rfl)), (tp_7 _ (List.mem_of_getElem? (i := 13) rfl))⟩, fun h => absurd h (by decide), by decide, mp_152⟩
set_option maxRecDepth 10000 in
theorem ca_210 : CAP (12, 237, 157, 1, 0, 1) := ⟨fun _ => (tb_7 _ (List.mem_of_getElem? (i := 69) rfl)), fun h => absurd h (by decide), by decide, fun h => absurd h (by decide), fun _ => ⟨(tb_7 _ (List.mem_of_getElem? (i := 71) rfl)), (tp_7 _ (List.mem_of_getElem? (i := 6) rfl))⟩, fun h => absurd h (by decide), by decide, mp_157⟩
set_option maxRecDepth 10000 in
theorem ca_211 : CAP (12, 243, 151, 1, 0, 3) := ⟨fun _ => (tb_7 _ (List.mem_of_getElem? (i := 77) rfl)), fun h => absurd h (by decide), by decide, fun h => absurd h (by decide), fun _ => ⟨(tb_7 _ (List.mem_of_getElem? (i := 79) rfl)), (tp_7 _ (List.mem_of_getElem? (i := 8) rfl))⟩, fun h => absurd h (by decide), by decide, mp_151⟩
set_option maxRecDepth 10000 in
theorem ca_212 : CAP (12, 246, 149, 1, 0, 2) := ⟨fun _ => (tb_7 _ (List.mem_of_getElem? (i := 84) rfl)), fun h => absurd h (by decide), by decide, fun h => absurd h (by decide), fun _ => ⟨(tb_7 _ (List.mem_of_getElem? (i := 86) rfl)), (tp_7 _ (List.mem_of_getElem? (i := 9) rfl))⟩, fun h => absurd h (by decide), by decide, mp_149⟩
set_option maxRecDepth 10000 in
theorem ca_213 : CAP (12, 250, 156, 1, 0, 1) := ⟨fun _ => (tb_7 _ (List.mem_of_getElem? (i := 88) rfl)), fun h => absurd h (by decide), by decide, fun h => absurd h (by decide), fun _ => ⟨(tb_7 _ (List.mem_of_getElem? (i := 90) rfl)), (tp_7 _ (List.mem_of_getElem? (i := 10) rfl))⟩, fun h => absurd h (by decide), by decide, mp_156⟩
set_option maxRecDepth 10000 in
theorem ca_214 : CAP (12, 253, 159, 1, 0, 1) := ⟨fun _ => (tb_7 _ (List.mem_of_getElem? (i := 92) rfl)), fun h => absurd h (by decide), by decide, fun h => absurd h (by decide), fun _ => ⟨(tb_7 _ (List.mem_of_getElem? (i := 94) rfl)), (tp_7 _ (List.mem_of_getElem? (i := 11) rfl))⟩, fun h => absurd h (by decide), by decide, mp_159⟩
set_option maxRecDepth 10000 in
theorem ca_215 : CAP (12, 256, 160, 1, 0, 1) := ⟨fun _ => (tb_7 _ (List.mem_of_getElem? (i := 112) rfl)), fun h => absurd h (by decide), by decide, fun h => absurd h (by decide), fun _ => ⟨(tb_7 _ (List.mem_of_getElem? (i := 114) rfl)), (tp_8 _ (List.mem_of_getElem? (i := 0) rfl))⟩, fun h => absurd h (by decide), by decide, mp_160⟩
set_option maxRecDepth 10000 in
theorem ca_216 : CAP (12, 259, 161, 1, 0, 0) := ⟨fun _ => (tb_7 _ (List.mem_of_getElem? (i := 116) rfl)), fun h => absurd h (by decide), by decide, fun h => absurd h (by decide), fun _ => ⟨(tb_7 _ (List.mem_of_getElem? (i := 118) rfl)), (tp_8 _ (List.mem_of_getElem? (i := 1) rfl))⟩, fun h => absurd h (by decide), by decide, mp_161⟩
set_option maxRecDepth 10000 in
theorem ca_217 : CAP (12, 262, 162, 1, 0, 0) := ⟨fun _ => (tb_7 _ (List.mem_of_getElem? (i := 120) rfl)), fun h => absurd h (by decide), by decide, fun h => absurd h (by decide), fun _ => ⟨(tb_7 _ (List.mem_of_getElem? (i := 122) rfl)), (tp_8 _ (List.mem_of_getElem? (i := 2) rfl))⟩, fun h => absurd h (by decide), by decide, mp_162⟩
set_option maxRecDepth 10000 in
theorem ca_218 : CAP (12, 265, 163, 1, 0, 0) := ⟨fun _ => (tb_7 _ (List.mem_of_getElem? (i := 124) rfl)), fun h => absurd h (by decide), by decide, fun h => absurd h (by decide), fun _ => ⟨(tb_7 _ (List.mem_of_getElem? (i := 126) rfl)), (tp_8 _ (List.mem_of_getElem? (i := 3) rfl))⟩, fun h => absurd h (by decide), by decide, mp_163⟩
set_option maxRecDepth 10000 in
theorem ca_219 : CAP (12, 268, 164, 1, 0, 0) := ⟨fun _ => (tb_7 _ (List.mem_of_getElem? (i := 128) rfl)), fun h => absurd h (by decide), by decide, fun h => absurd h (by decide), fun _ => ⟨(tb_7 _ (List.mem_of_getElem? (i := 130) rfl)), (tp_8 _ (List.mem_of_getElem? (i := 4) rfl))⟩, fun h => absurd h (by decide), by decide, mp_164⟩
set_option maxRecDepth 10000 in
theorem ca_220 : CAP (12, 271, 147, 1, 0, 1) := ⟨fun _ => (tb_7 _ (List.mem_of_getElem? (i := 168) rfl)), fun h => absurd h (by decide), by decide, fun h => absurd h (by decide), fun _ => ⟨(tb_7 _ (List.mem_of_getElem? (i := 170) rfl)), (tp_8 _ (List.mem_of_getElem? (i := 14) rfl))⟩, fun h => absurd h (by decide), by decide, mp_147⟩
set_option maxRecDepth 10000 in
theorem ca_221 : CAP (12, 277, 153, 1, 0, 0) := ⟨fun _ => (tb_7 _ (List.mem_of_getElem? (i := 96) rfl)), fun h => absurd h (by decide), by decide, fun h => absurd h (by decide), fun _ => ⟨(tb_7 _ (List.mem_of_getElem? (i := 98) rfl)), (tp_7 _ (List.mem_of_getElem? (i := 12) rfl))⟩, fun h => absurd h (by decide), by decide, mp_153⟩
set_option maxRecDepth 10000 in
theorem ca_222 : CAP (12, 280, 148, 1, 0, 0) := ⟨fun _ => (tb_7 _ (List.mem_of_getElem? (i := 104) rfl)), fun h => absurd h (by decide), by decide, fun h => absurd h (by decide), fun _ => ⟨(tb_7 _ (List.mem_of_getElem? (i := 106) rfl)), (tp_7 _ (List.mem_of_getElem? (i := 14) rfl))⟩, fun h => absurd h (by decide), by decide, mp_148⟩
set_option maxRecDepth 10000 in
theorem ca_223 : CAP (12, 283, 154, 1, 0, 0) := ⟨fun _ => (tb_7 _ (List.mem_of_getElem? (i := 108) rfl)), fun h => absurd h (by decide), by decide, fun h => absurd h (by decide), fun _ => ⟨(tb_7 _ (List.mem_of_getElem? (i := 110) rfl)), (tp_7 _ (List.mem_of_getElem? (i := 15) rfl))⟩, fun h => absurd h (by decide), by decide, mp_154⟩
set_option maxRecDepth 10000 in
theorem ca_224 : CAP (12, 286, 167, 1, 0, 0) := ⟨fun _ => (tb_7 _ (List.mem_of_getElem? (i := 132) rfl)), fun h => absurd h (by decide), by decide, fun h => absurd h (by decide), fun _ => ⟨(tb_7 _ (List.mem_of_getElem? (i := 134) rfl)), (tp_8 _ (List.mem_of_getElem? (i := 5) rfl))⟩, fun h => absurd h (by decide), by decide, mp_167⟩
set_option maxRecDepth 10000 in
theorem ca_225 : CAP (12, 292, 168, 1, 0, 0) := ⟨fun _ => (tb_7 _ (List.mem_of_getElem? (i := 136) rfl)), fun h => absurd h (by decide), by decide, fun h => absurd h (by decide), fun _ => ⟨(tb_7 _ (List.mem_of_getElem? (i := 138) rfl)), (tp_8 _ (List.mem_of_getElem? (i := 6) rfl))⟩, fun h => absurd h (by decide), by decide, mp_168⟩
set_option maxRecDepth 10000 in
theorem ca_226 : CAP (12, 295, 146, 1, 0, 1) := ⟨fun _ => (tb_7 _ (List.mem_of_getElem? (i := 144) rfl)), fun h => absurd h (by decide), by decide, fun h => absurd h (by decide), fun _ => ⟨(tb_7 _ (List.mem_of_getElem? (i := 146) rfl)), (tp_8 _ (List.mem_of_getElem? (i := 8) rfl))⟩, fun h => absurd h (by decide), by decide, mp_146⟩
set_option maxRecDepth 10000 in
theorem ca_227 : CAP (12, 298, 166, 1, 0, 0) := ⟨fun _ => (tb_7 _ (List.mem_of_getElem? (i := 148) rfl)), fun h => absurd h (by decide), by decide, fun h => absurd h (by decide), fun _ => ⟨(tb_7 _ (List.mem_of_getElem? (i := 150) rfl)), (tp_8 _ (List.mem_of_getElem? (i := 9) rfl))⟩, fun h => absurd h (by decide), by decide, mp_166⟩
set_option maxRecDepth 10000 in
theorem ca_228 : CAP (12, 301, 165, 1, 0, 2) := ⟨fun _ => (tb_7 _ (List.mem_of_getElem? (i := 152) rfl)), fun h => absurd h (by decide), by decide, fun h => absurd h (by decide), fun _ => ⟨(tb_7 _ (List.mem_of_getElem? (i := 154) rfl)), (tp_8 _ (List.mem_of_getElem? (i := 10) rfl))⟩, fun h => absurd h (by decide), by decide, mp_165⟩
set_option maxRecDepth 10000 in
theorem ca_229 : CAP (12, 305, 169, 1, 0, 0) := ⟨fun _ => (tb_7 _ (List.mem_of_getElem? (i := 140) rfl)), fun h => absurd h (by decide), by decide, fun h => absurd h (by decide), fun _ => ⟨(tb_7 _ (List.mem_of_getElem? (i := 142) rfl)), (tp_8 _ (List.mem_of_getElem? (i := 7) rfl))⟩, fun h => absurd h (by decide), by decide, mp_169⟩
set_option maxRecDepth 10000 in
theorem ca_230 : CAP (12, 308, 170, 1, 0, 0) := ⟨fun _ => (tb_7 _ (List.mem_of_getElem? (i := 156) rfl)), fun h => absurd h (by decide), by decide, fun h => absurd h (by decide), fun _ => ⟨(tb_7 _ (List.mem_of_getElem? (i := 158) rfl)), (tp_8 _ (List.mem_of_getElem? (i := 11) rfl))⟩, fun h => absurd h (by decide), by decide, mp_170⟩
set_option maxRecDepth 10000 in
theorem ca_231 : CAP (12, 311, 171, 1, 0, 0) := ⟨fun _ => (tb_7 _ (List.mem_of_getElem? (i := 160) rfl)), fun h => absurd h (by decide), by decide, fun h => absurd h (by decide), fun _ => ⟨(tb_7 _ (List.mem_of_getElem? (i := 162) rfl)), (tp_8 _ (List.mem_of_getElem? (i := 12) rfl))⟩, fun h => absurd h (by decide), by decide, mp_171⟩
set_option maxRecDepth 10000 in
theorem ca_232 : CAP (12, 314, 172, 1, 0, 0) := ⟨fun _ => (tb_7 _ (List.mem_of_getElem? (i := 164) rfl)), fun h => absurd h (by decide), by decide, fun h => absurd h (by decide), fun _ => ⟨(tb_7 _ (List.mem_of_getElem? (i := 166) rfl)), (tp_8 _ (List.mem_of_getElem? (i := 13) rfl))⟩, fun h => absurd h (by decide), by decide, mp_172⟩
set_option maxRecDepth 10000 in
theorem ca_233 : CAP (12, 320, 158, 1, 0, 0) := ⟨fun _ => (tb_7 _ (List.mem_of_getElem? (i := 61) rfl)), fun h => absurd h (by decide), by decide, fun h => absurd h (by decide), fun _ => ⟨(tb_7 _ (List.mem_of_getElem? (i := 63) rfl)), (tp_7 _ (List.mem_of_getElem? (i := 4) rfl))⟩, fun h => absurd h (by decide), by decide, mp_158⟩
set_option maxRecDepth 10000 in
theorem ca_234 : CAP (12, 326, 173, 0, 0, 1) := ⟨fun _ => (tb_7 _ (List.mem_of_getElem? (i := 172) rfl)), fun h => absurd h (by decide), by decide, fun _ => (tb_7 _ (List.mem_of_getElem? (i := 173) rfl)), fun h => absurd h (by decide), fun h => absurd h (by decide), by decide, mp_173⟩
set_option maxRecDepth 10000 in
theorem ca_235 : CAP (12, 343, 189, 0, 0, 1) := ⟨fun _ => (tb_8 _ (List.mem_of_getElem? (i := 0) rfl)), fun h => absurd h (by decide), by decide, fun _ => (tb_8 _ (List.mem_of_getElem? (i := 1) rfl)), fun h => absurd h (by decide), fun h => absurd h (by decide), by decide, mp_189⟩
set_option maxRecDepth 10000 in
theorem ca_236 : CAP (12, 357, 190, 1, 0, 1) := ⟨fun _ => (tb_7 _ (List.mem_of_getElem? (i := 236) rfl)), fun h => absurd h (by decide), by decide, fun h => absurd h (by decide), fun _ => ⟨(tb_7 _ (List.mem_of_getElem? (i := 238) rfl)), (tp_9 _ (List.mem_of_getElem? (i := 10) rfl))⟩, fun h => absurd h (by decide), by decide, mp_190⟩
set_option maxRecDepth 10000 in
theorem ca_237 : CAP (12, 360, 186, 1, 0, 2) := ⟨fun _ => (tb_7 _ (List.mem_of_getElem? (i := 207) rfl)), fun h => absurd h (by decide), by decide, fun h => absurd h (by decide), fun _ => ⟨(tb_7 _ (List.mem_of_getElem? (i := 209) rfl)), (tp_9 _ (List.mem_of_getElem? (i := 4) rfl))⟩, fun h => absurd h (by decide), by decide, mp_186⟩
set_option maxRecDepth 10000 in
theorem ca_238 : CAP (12, 366, 191, 1, 0, 1) := ⟨fun _ => (tb_7 _ (List.mem_of_getElem? (i := 232) rfl)), fun h => absurd h (by decide), by decide, fun h => absurd h (by decide), fun _ => ⟨(tb_7 _ (List.mem_of_getElem? (i := 234) rfl)), (tp_9 _ (List.mem_of_getElem? (i := 9) rfl))⟩, fun h => absurd h (by decide), by decide, mp_191⟩
set_option maxRecDepth 10000 in
theorem ca_239 : CAP (12, 375, 192, 1, 0, 1) := ⟨fun _ => (tb_7 _ (List.mem_of_getElem? (i := 223) rfl)), fun h => absurd h (by decide), by decide, fun h => absurd h (by decide), fun _ => ⟨(tb_7 _ (List.mem_of_getElem? (i := 225) rfl)), (tp_9 _ (List.mem_of_getElem? (i := 7) rfl))⟩, fun h => absurd h (by decide), by decide, mp_192⟩
set_option maxRecDepth 10000 in
theorem ca_240 : CAP (12, 378, 193, 1, 0, 4) := ⟨fun _ => (tb_7 _ (List.mem_of_getElem? (i := 227) rfl)), fun h => absurd h (by decide), by decide, fun h => absurd h (by decide), fun _ => ⟨(tb_7 _ (List.mem_of_getElem? (i := 229) rfl)), (tp_9 _ (List.mem_of_getElem? (i := 8) rfl))⟩, fun h => absurd h (by decide), by decide, mp_193⟩
set_option maxRecDepth 10000 in
theorem ca_241 : CAP (12, 382, 194, 0, 0, 3) := ⟨fun _ => (tb_8 _ (List.mem_of_getElem? (i := 8) rfl)), fun h => absurd h (by decide), by decide, fun _ => (tb_8 _ (List.mem_of_getElem? (i := 9) rfl)), fun h => absurd h (by decide), fun h => absurd h (by decide), by decide, mp_194⟩
set_option maxRecDepth 10000 in
theorem ca_242 : CAP (12, 386, 195, 1, 0, 2) := ⟨fun _ => (tb_7 _ (List.mem_of_getElem? (i := 219) rfl)), fun h => absurd h (by decide), by decide, fun h => absurd h (by decide), fun _ => ⟨(tb_7 _ (List.mem_of_getElem? (i := 221) rfl)), (tp_9 _ (List.mem_of_getElem? (i := 6) rfl))⟩, fun h => absurd h (by decide), by decide, mp_195⟩
set_option maxRecDepth 10000 in
theorem ca_243 : CAP (12, 389, 196, 1, 0, 2) := ⟨fun _ => (tb_8 _ (List.mem_of_getElem? (i := 17) rfl)), fun h => absurd h (by decide), by decide, fun h => absurd h (by decide), fun _ => ⟨(tb_8 _ (List.mem_of_getElem? (i := 19) rfl)), (tp_9 _ (List.mem_of_getElem? (i := 12) rfl))⟩, fun h => absurd h (by decide), by decide, mp_196⟩
set_option maxRecDepth 10000 in
theorem ca_244 : CAP (12, 393, 184, 1, 0, 2) := ⟨fun _ => (tb_8 _ (List.mem_of_getElem? (i := 13) rfl)), fun h => absurd h (by decide), by decide, fun h => absurd h (by decide), fun _ => ⟨(tb_8 _ (List.mem_of_getElem? (i := 15) rfl)), (tp_9 _ (List.mem_of_getElem? (i := 11) rfl))⟩, fun h => absurd h (by decide), by decide, mp_184⟩
set_option maxRecDepth 10000 in
theorem ca_245 : CAP (12, 396, 185, 1, 0, 2) := ⟨fun _ => (tb_7 _ (List.mem_of_getElem? (i := 203) rfl)), fun h => absurd h (by decide), by decide, fun h => absurd h (by decide), fun _ => ⟨(tb_7 _ (List.mem_of_getElem? (i := 205) rfl)), (tp_9 _ (List.mem_of_getElem? (i := 3) rfl))⟩, fun h => absurd h (by decide), by decide, mp_185⟩
set_option maxRecDepth 10000 in
theorem ca_246 : CAP (12, 399, 183, 1, 0, 2) := ⟨fun _ => (tb_7 _ (List.mem_of_getElem? (i := 195) rfl)), fun h => absurd h (by decide), by decide, fun h => absurd h (by decide), fun _ => ⟨(tb_7 _ (List.mem_of_getElem? (i := 197) rfl)), (tp_9 _ (List.mem_of_getElem? (i := 1) rfl))⟩, fun h => absurd h (by decide), by decide, mp_183⟩
set_option maxRecDepth 10000 in
theorem ca_247 : CAP (12, 404, 199, 1, 0, 3) := ⟨fun _ => (tb_8 _ (List.mem_of_getElem? (i := 39) rfl)), fun h => absurd h (by decide), by decide, fun h => absurd h (by decide), fun _ => ⟨(tb_8 _ (List.mem_of_getElem? (i := 41) rfl)), (tp_9 _ (List.mem_of_getElem? (i := 15) rfl))⟩, fun h => absurd h (by decide), by decide, mp_199⟩
set_option maxRecDepth 10000 in
theorem ca_248 : CAP (12, 408, 198, 1, 0, 2) := ⟨fun _ => (tb_8 _ (List.mem_of_getElem? (i := 51) rfl)), fun h => absurd h (by decide), by decide, fun h => absurd h (by decide), fun _ => ⟨(tb_8 _ (List.mem_of_getElem? (i := 53) rfl)), (tp_10 _ (List.mem_of_getElem? (i := 2) rfl))⟩, fun h => absurd h (by decide), by decide, mp_198⟩
set_option maxRecDepth 10000 in
theorem ca_249 : CAP (12, 411, 197, 1, 0, 2) := ⟨fun _ => (tb_8 _ (List.mem_of_getElem? (i := 55) rfl)), fun h => absurd h (by decide), by decide, fun h => absurd h (by decide), fun _ => ⟨(tb_8 _ (List.mem_of_getElem? (i := 57) rfl)), (tp_10 _ (List.mem_of_getElem? (i := 3) rfl))⟩, fun h => absurd h (by decide), by decide, mp_197⟩
set_option maxRecDepth 10000 in
theorem ca_250 : CAP (12, 415, 187, 1, 0, 3) := ⟨fun _ => (tb_8 _ (List.mem_of_getElem? (i := 63) rfl)), fun h => absurd h (by decide), by decide, fun h => absurd h (by decide), fun _ => ⟨(tb_8 _ (List.mem_of_getElem? (i := 65) rfl)), (tp_10 _ (List.mem_of_getElem? (i := 5) rfl))⟩, fun h => absurd h (by decide), by decide, mp_187⟩
set_option maxRecDepth 10000 in
theorem ca_251 : CAP (12, 419, 200, 1, 0, 1) := ⟨fun _ => (tb_8 _ (List.mem_of_getElem? (i := 34) rfl)), fun h => absurd h (by decide), by decide, fun h => absurd h (by decide), fun _ => ⟨(tb_8 _ (List.mem_of_getElem? (i := 36) rfl)), (tp_9 _ (List.mem_of_getElem? (i := 14) rfl))⟩, fun h => absurd h (by decide), by decide, mp_200⟩
set_option maxRecDepth 10000 in
theorem ca_252 : CAP (12, 422, 201, 1, 0, 1) := ⟨fun _ => (tb_8 _ (List.mem_of_getElem? (i := 43) rfl)), fun h => absurd h (by decide), by decide, fun h => absurd h (by decide), fun _ => ⟨(tb_8 _ (List.mem_of_getElem? (i := 45) rfl)), (tp_10 _ (List.mem_of_getElem? (i := 0) rfl))⟩, fun h => absurd h (by decide), by decide, mp_201⟩
set_option maxRecDepth 10000 in
theorem ca_253 : CAP (12, 425, 202, 1, 0, 1) := ⟨fun _ => (tb_8 _ (List.mem_of_getElem? (i := 47) rfl)), fun h => absurd h (by decide), by decide, fun h => absurd h (by decide), fun _ => ⟨(tb_8 _ (List.mem_of_getElem? (i := 49) rfl)), (tp_10 _ (List.mem_of_getElem? (i := 1) rfl))⟩, fun h => absurd h (by decide), by decide, mp_202⟩
set_option maxRecDepth 10000 in
theorem ca_254 : CAP (12, 428, 203, 1, 0, 2) := ⟨fun _ => (tb_8 _ (List.mem_of_getElem? (i := 59) rfl)), fun h => absurd h (by decide), by decide, fun h => absurd h (by decide), fun _ => ⟨(tb_8 _ (List.mem_of_getElem? (i := 61) rfl)), (tp_10 _ (List.mem_of_getElem? (i := 4) rfl))⟩, fun h => absurd h (by decide), by decide, mp_203⟩
set_option maxRecDepth 10000 in
theorem ca_255 : CAP (12, 430, 180, 1, 0, 1) := ⟨fun _ => (tb_7 _ (List.mem_of_getElem? (i := 187) rfl)), fun h => absurd h (by decide), by decide, fun h => absurd h (by decide), fun _ => ⟨(tb_7 _ (List.mem_of_getElem? (i := 189) rfl)), (tp_8 _ (List.mem_of_getElem? (i := 15) rfl))⟩, fun h => absurd h (by decide), by decide, mp_180⟩
set_option maxRecDepth 10000 in
theorem ca_256 : CAP (12, 433, 188, 1, 0, 0) := ⟨fun _ => (tb_7 _ (List.mem_of_getElem? (i := 191) rfl)), fun h => absurd h (by decide), by decide, fun h => absurd h (by decide), fun _ => ⟨(tb_7 _ (List.mem_of_getElem? (i := 193) rfl)), (tp_9 _ (List.mem_of_getElem? (i := 0) rfl))⟩, fun h => absurd h (by decide), by decide, mp_188⟩
set_option maxRecDepth 10000 in
theorem ca_257 : CAP (12, 436, 205, 1, 0, 1) := ⟨fun _ => (tb_7 _ (List.mem_of_getElem? (i := 199) rfl)), fun h => absurd h (by decide), by decide, fun h => absurd h (by decide), fun _ => ⟨(tb_7 _ (List.mem_of_getElem? (i := 201) rfl)), (tp_9 _ (List.mem_of_getElem? (i := 2) rfl))⟩, fun h => absurd h (by decide), by decide, mp_205⟩
set_option maxRecDepth 10000 in
theorem ca_258 : CAP (12, 439, 182, 1, 0, 1) := ⟨fun _ => (tb_7 _ (List.mem_of_getElem? (i := 215) rfl)), fun h => absurd h (by decide), by decide, fun h => absurd h (by decide), fun _ => ⟨(tb_7 _ (List.mem_of_getElem? (i := 217) rfl)), (tp_9 _ (List.mem_of_getElem? (i := 5) rfl))⟩, fun h => absurd h (by decide), by decide, mp_182⟩
set_option maxRecDepth 10000 in
theorem ca_259 : CAP (12, 446, 204, 1, 0, 1) := ⟨fun _ => (tb_8 _ (List.mem_of_getElem? (i := 30) rfl)), fun h => absurd h (by decide), by decide, fun h => absurd h (by decide), fun _ => ⟨(tb_8 _ (List.mem_of_getElem? (i := 32) rfl)), (tp_9 _ (List.mem_of_getElem? (i := 13) rfl))⟩, fun h => absurd h (by decide), by decide, mp_204⟩
set_option maxRecDepth 10000 in
theorem ca_260 : CAP (12, 458, 211, 1, 0, 1) := ⟨fun _ => (tb_8 _ (List.mem_of_getElem? (i := 75) rfl)), fun h => absurd h (by decide), by decide, fun h => absurd h (by decide), fun _ => ⟨(tb_8 _ (List.mem_of_getElem? (i := 77) rfl)), (tp_10 _ (List.mem_of_getElem? (i := 6) rfl))⟩, fun h => absurd h (by decide), by decide, mp_211⟩
set_option maxRecDepth 10000 in
theorem ca_261 : CAP (12, 461, 213, 1, 0, 2) := ⟨fun _ => (tb_8 _ (List.mem_of_getElem? (i := 95) rfl)), fun h => absurd h (by decide), by decide, fun h => absurd h (by decide), fun _ => ⟨(tb_8 _ (List.mem_of_getElem? (i := 97) rfl)), (tp_10 _ (List.mem_of_getElem? (i := 10) rfl))⟩, fun h => absurd h (by decide), by decide, mp_213⟩
set_option maxRecDepth 10000 in
theorem ca_262 : CAP (12, 467, 214, 1, 0, 3) := ⟨fun _ => (tb_8 _ (List.mem_of_getElem? (i := 91) rfl)), fun h => absurd h (by decide), by decide, fun h => absurd h (by decide), fun _ => ⟨(tb_8 _ (List.mem_of_getElem? (i := 93) rfl)), (tp_10 _ (List.mem_of_getElem? (i := 9) rfl))⟩, fun h => absurd h (by decide), by decide, mp_214⟩
set_option maxRecDepth 10000 in
theorem ca_263 : CAP (12, 477, 216, 1, 0, 1) := ⟨fun _ => (tb_8 _ (List.mem_of_getElem? (i := 83) rfl)), fun h => absurd h (by decide), by decide, fun h => absurd h (by decide), fun _ => ⟨(tb_8 _ (List.mem_of_getElem? (i := 85) rfl)), (tp_10 _ (List.mem_of_getElem? (i := 7) rfl))⟩, fun h => absurd h (by decide), by decide, mp_216⟩
set_option maxRecDepth 10000 in
theorem ca_264 : CAP (12, 480, 215, 1, 0, 1) := ⟨fun _ => (tb_8 _ (List.mem_of_getElem? (i := 87) rfl)), fun h => absurd h (by decide), by decide, fun h => absurd h (by decide), fun _ => ⟨(tb_8 _ (List.mem_of_getElem? (i := 89) rfl)), (tp_10 _ (List.mem_of_getElem? (i := 8) rfl))⟩, fun h => absurd h (by decide), by decide, mp_215⟩
set_option maxRecDepth 10000 in
theorem ca_265 : CAP (12, 483, 178, 1, 0, 2) := ⟨fun _ => (tb_8 _ (List.mem_of_getElem? (i := 107) rfl)), fun h => absurd h (by decide), by decide, fun h => absurd h (by decide), fun _ => ⟨(tb_8 _ (List.mem_of_getElem? (i := 109) rfl)), (tp_10 _ (List.mem_of_getElem? (i := 12) rfl))⟩, fun h => absurd h (by decide), by decide, mp_178⟩
set_option maxRecDepth 10000 in
theorem ca_266 : CAP (12, 486, 218, 1, 0, 0) := ⟨fun _ => (tb_8 _ (List.mem_of_getElem? (i := 103) rfl)), fun h => absurd h (by decide), by decide, fun h => absurd h (by decide), fun _ => ⟨(tb_8 _ (List.mem_of_getElem? (i := 105) rfl)), (tp_10 _ (List.mem_of_getElem? (i := 11) rfl))⟩, fun h => absurd h (by decide), by decide, mp_218⟩
set_option maxRecDepth 10000 in
theorem ca_267 : CAP (12, 492, 221, 1, 0, 2) := ⟨fun _ => (tb_8 _ (List.mem_of_getElem? (i := 127) rfl)), fun h => absurd h (by decide), by decide, fun h => absurd h (by decide), fun _ => ⟨(tb_8 _ (List.mem_of_getElem? (i := 129) rfl)), (tp_10 _ (List.mem_of_getElem? (i := 15) rfl))⟩, fun h => absurd h (by decide), by decide, mp_221⟩
set_option maxRecDepth 10000 in
theorem ca_268 : CAP (12, 495, 222, 1, 0, 3) := ⟨fun _ => (tb_8 _ (List.mem_of_getElem? (i := 123) rfl)), fun h => absurd h (by decide), by decide, fun h => absurd h (by decide), fun _ => ⟨(tb_8 _ (List.mem_of_getElem? (i := 125) rfl)), (tp_10 _ (List.mem_of_getElem? (i := 14) rfl))⟩, fun h => absurd h (by decide), by decide, mp_222⟩
set_option maxRecDepth 10000 in
theorem ca_269 : CAP (12, 498, 223, 1, 0, 0) := ⟨fun _ => (tb_8 _ (List.mem_of_getElem? (i := 119) rfl)), fun h => absurd h (by decide), by decide, fun h => absurd h (by decide), fun _ => ⟨(tb_8 _ (List.mem_of_getElem? (i := 121) rfl)), (tp_10 _ (List.mem_of_getElem? (i := 13) rfl))⟩, fun h => absurd h (by decide), by decide, mp_223⟩
set_option maxRecDepth 10000 in
theorem ca_270 : CAP (12, 501, 181, 1, 0, 1) := ⟨fun _ => (tb_8 _ (List.mem_of_getElem? (i := 151) rfl)), fun h => absurd h (by decide), by decide, fun h => absurd h (by decide), fun _ => ⟨(tb_8 _ (List.mem_of_getElem? (i := 153) rfl)), (tp_11 _ (List.mem_of_getElem? (i := 0) rfl))⟩, fun h => absurd h (by decide), by decide, mp_181⟩
set_option maxRecDepth 10000 in
theorem ca_271 : CAP (12, 504, 232, 1, 0, 0) := ⟨fun _ => (tb_8 _ (List.mem_of_getElem? (i := 167) rfl)), fun h => absurd h (by decide), by decide, fun h => absurd h (by decide), fun _ => ⟨(tb_8 _ (List.mem_of_getElem? (i := 169) rfl)), (tp_11 _ (List.mem_of_getElem? (i := 1) rfl))⟩, fun h => absurd h (by decide), by decide, mp_232⟩
set_option maxRecDepth 10000 in
theorem ca_272 : CAP (12, 507, 236, 1, 0, 1) := ⟨fun _ => (tb_8 _ (List.mem_of_getElem? (i := 179) rfl)), fun h => absurd h (by decide), by decide, fun h => absurd h (by decide), fun _ => ⟨(tb_8 _ (List.mem_of_getElem? (i := 181) rfl)), (tp_11 _ (List.mem_of_getElem? (i := 2) rfl))⟩, fun h => absurd h (by decide), by decide, mp_236⟩
set_option maxRecDepth 10000 in
theorem ca_273 : CAP (12, 510, 179, 1, 0, 2) := ⟨fun _ => (tb_8 _ (List.mem_of_getElem? (i := 191) rfl)), fun h => absurd h (by decide), by decide, fun h => absurd h (by decide), fun _ => ⟨(tb_8 _ (List.mem_of_getElem? (i := 193) rfl)), (tp_11 _ (List.mem_of_getElem? (i := 3) rfl))⟩, fun h => absurd h (by decide), by decide, mp_179⟩
set_option maxRecDepth 10000 in
theorem ca_274 : CAP (15, 335, 249, 1, 0, 0) := ⟨fun _ => (tb_3 _ (List.mem_of_getElem? (i := 60) rfl)), fun h => absurd h (by decide), by decide, fun h => absurd h (by decide), fun _ => ⟨(tb_3 _ (List.mem_of_getElem? (i := 61) rfl)), (tb_3 _ (List.mem_of_getElem? (i := 62) rfl))⟩, fun h => absurd h (by decide), by decide, mp_249⟩
set_option maxRecDepth 10000 in
theorem ca_275 : CAP (15, 492, 250, 1, 0, 0) := ⟨fun _ => (tb_3 _ (List.mem_of_getElem? (i := 70) rfl)), fun h => absurd h (by decide), by decide, fun h => absurd h (by decide), fun _ => ⟨(tb_3 _ (List.mem_of_getElem? (i := 71) rfl)), (tb_3 _ (List.mem_of_getElem? (i := 72) rfl))⟩, fun h => absurd h (by decide), by decide, mp_250⟩
set_option maxRecDepth 10000 in
theorem ca_276 : CAP (15, 495, 252, 0, 0, 2) := ⟨fun _ => (tb_3 _ (List.mem_of_getElem? (i := 74) rfl)), fun h => absurd h (by decide), by decide, fun _ => (tb_3 _ (List.mem_of_getElem? (i := 75) rfl)), fun h => absurd h (by decide), fun h => absurd h (by decide), by decide, mp_252⟩
set_option maxRecDepth 10000 in
theorem ca_277 : CAP (15, 1059, 253, 0, 0, 3) := ⟨fun _ => (tb_3 _ (List.mem_of_getElem? (i := 82) rfl)), fun h => absurd h (by decide), by decide, fun _ => (tb_3 _ (List.mem_of_getElem? (i := 83) rfl)), fun h => absurd h (by decide), fun h => absurd h (by decide), by decide, mp_253⟩
set_option maxRecDepth 10000 in
theorem ca_278 : CAP (16, 9, 251, 0, 0, 2) := ⟨fun _ => (tb_3 _ (List.mem_of_getElem? (i := 77) rfl)), fun h => absurd h (by decide), by decide, fun _ => (tb_3 _ (List.mem_of_getElem? (i := 78) rfl)), fun h => absurd h (by decide), fun h => absurd h (by decide), by decide, mp_251⟩
def CA : List (Nat × Nat × Nat × Nat × Nat × Nat) := [(0, 17, 1, 2, 0, 0), (0, 20, 135, 2, 0, 0), (0, 21, 2, 1, 0, 5), (0, 25, 137, 1, 0, 5), (0, 26, 4, 1, 0, 1), (0, 30, 174, 1, 0, 1), (0, 31, 5, 1, 0, 1), (0, 34, 175, 1, 0, 1), (0, 35, 6, 1, 0, 2), (0, 38, 176, 1, 0, 2), (0, 44, 206, 1, 0, 2), (0, 45, 136, 1, 0, 0), (0, 49, 8, 1, 0, 2), (0, 52, 207, 1, 0, 2), (0, 53, 9, 1, 0, 3), (0, 57, 208, 1, 0, 3), (0, 58, 10, 1, 0, 1), (0, 61, 209, 1, 0, 1), (0, 62, 11, 1, 0, 2), (0, 65, 210, 1, 0, 2), (0, 66, 14, 1, 0, 2), (0, 69, 212, 1, 0, 2), (0, 70, 15, 1, 0, 2), (0, 73, 217, 1, 0, 2), (0, 74, 16, 1, 0, 1), (0, 77, 219, 1, 0, 1), (0, 78, 18, 1, 0, 1), (0, 81, 220, 1, 0, 1), (0, 82, 19, 1, 0, 1), (0, 85, 224, 1, 0, 1), (0, 86, 20, 1, 0, 0), (0, 89, 225, 1, 0, 0), (0, 90, 21, 1, 0, 1), (0, 93, 226, 1, 0, 1), (0, 94, 23, 1, 0, 2), (0, 97, 227, 1, 0, 2), (0, 98, 22, 1, 0, 2), (0, 101, 228, 1, 0, 2), (0, 102, 25, 1, 0, 2), (0, 106, 229, 1, 0, 2), (0, 107, 26, 1, 0, 1), (0, 110, 230, 1, 0, 1), (0, 111, 27, 1, 0, 1), (0, 115, 231, 1, 0, 1), (0, 116, 28, 1, 0, 0), (0, 119, 233, 1, 0, 0), (0, 120, 29, 1, 0, 0), (0, 123, 234, 1, 0, 0), (0, 124, 12, 1, 0, 3), (0, 128, 235, 1, 0, 3), (0, 129, 24, 1, 0, 0), (0, 132, 237, 1, 0, 0), (0, 133, 30, 1, 0, 0), (0, 136, 238, 1, 0, 0), (0, 137, 31, 1, 0, 0), (0, 140, 239, 1, 0, 0), (0, 141, 32, 1, 0, 1), (0, 144, 240, 1, 0, 1), (1, 17, 33, 2, 1, 0), (1, 24, 64, 2, 1, 0), (1, 34, 84, 2, 1, 1), (1, 49, 131, 2, 1, 1), (1, 56, 108, 2, 1, 0), (1, 68, 118, 2, 1, 0), (1, 75, 120, 2, 1, 0), (1, 82, 125, 2, 1, 0), (1, 91, 3, 1, 0, 1), (1, 95, 34, 1, 1, 3), (1, 99, 85, 1, 1, 1), (1, 102, 132, 1, 1, 0), (1, 109, 126, 1, 1, 0), (1, 119, 70, 1, 1, 1), (1, 123, 71, 1, 1, 1), (1, 126, 67, 1, 1, 1), (1, 141, 87, 1, 1, 1), (1, 144, 99, 1, 1, 1), (1, 147, 97, 1, 1, 1), (1, 161, 68, 1, 1, 1), (1, 179, 93, 1, 1, 1), (1, 182, 92, 1, 1, 1), (1, 190, 96, 1, 1, 3), (1, 197, 109, 1, 1, 3), (1, 210, 13, 1, 0, 2), (1, 214, 86, 1, 1, 1), (1, 218, 106, 1, 1, 0), (1, 222, 66, 1, 1, 1), (1, 225, 116, 1, 1, 2), (1, 238, 17, 1, 0, 1), (1, 241, 119, 1, 1, 2), (1, 253, 133, 1, 1, 1), (1, 256, 102, 1, 1, 2), (1, 260, 104, 1, 1, 1), (1, 263, 121, 1, 1, 1), (1, 275, 91, 1, 1, 1), (1, 281, 101, 1, 1, 1), (1, 284, 103, 1, 1, 2), (1, 288, 134, 1, 1, 1), (1, 292, 127, 1, 1, 2), (1, 301, 129, 1, 1, 0), (1, 307, 130, 1, 1, 1), (1, 316, 79, 1, 1, 0), (1, 319, 128, 1, 1, 0), (1, 326, 107, 1, 1, 0), (2, 11, 56, 2, 1, 0), (2, 20, 64, 2, 1, 0), (2, 35, 65, 1, 1, 0), (2, 47, 57, 1, 1, 2), (2, 68, 36, 1, 0, 0), (2, 72, 37, 1, 0, 0), (2, 75, 43, 1, 0, 0), (2, 78, 44, 1, 0, 0), (2, 81, 45, 1, 0, 0), (2, 84, 46, 1, 0, 0), (2, 87, 47, 1, 0, 0), (2, 90, 48, 1, 0, 0), (2, 93, 35, 1, 0, 1), (2, 100, 58, 1, 1, 0), (2, 112, 70, 1, 1, 1), (2, 116, 38, 1, 0, 1), (2, 122, 39, 1, 0, 2), (2, 126, 73, 1, 1, 3), (2, 133, 71, 1, 1, 1), (2, 136, 74, 1, 1, 3), (2, 145, 42, 1, 0, 1), (2, 151, 40, 1, 0, 0), (2, 154, 67, 1, 1, 1), (2, 157, 41, 1, 0, 0), (2, 160, 66, 1, 1, 1), (2, 163, 72, 1, 1, 2), (2, 167, 75, 1, 1, 3), (2, 173, 76, 1, 1, 3), (2, 202, 49, 1, 0, 1), (2, 212, 50, 1, 0, 1), (2, 224, 51, 1, 0, 1), (2, 230, 55, 1, 0, 2), (2, 239, 53, 1, 0, 1), (2, 243, 54, 1, 0, 0), (2, 246, 52, 1, 0, 0), (2, 252, 81, 1, 1, 2), (3, 38, 58, 1, 0, 0), (3, 44, 59, 1, 0, 0), (3, 47, 61, 1, 0, 0), (3, 50, 62, 1, 0, 0), (3, 64, 60, 1, 0, 1), (3, 74, 247, 1, 0, 0), (3, 79, 248, 1, 0, 1), (3, 114, 63, 1, 0, 1), (4, 56, 80, 2, 1, 0), (4, 84, 68, 1, 0, 1), (4, 88, 66, 1, 0, 1), (5, 41, 83, 0, 0, 3), (6, 68, 78, 1, 1, 1), (6, 72, 93, 1, 0, 1), (6, 75, 88, 1, 0, 1), (6, 79, 89, 1, 0, 1), (6, 85, 87, 1, 0, 1), (6, 88, 90, 1, 0, 1), (6, 91, 96, 1, 0, 3), (6, 97, 77, 1, 1, 1), (6, 120, 68, 1, 1, 1), (6, 123, 67, 1, 1, 1), (6, 126, 97, 1, 0, 1), (6, 135, 82, 1, 1, 1), (6, 145, 100, 1, 0, 3), (6, 156, 102, 1, 0, 2), (6, 160, 105, 1, 0, 1), (7, 25, 110, 1, 0, 2), (7, 41, 69, 1, 1, 1), (7, 47, 113, 1, 0, 3), (7, 51, 68, 1, 1, 1), (7, 54, 101, 1, 1, 1), (7, 58, 115, 1, 0, 1), (7, 68, 87, 1, 1, 1), (7, 71, 111, 1, 0, 2), (7, 77, 93, 1, 1, 1), (7, 93, 67, 1, 1, 1), (7, 96, 112, 1, 0, 4), (7, 109, 88, 1, 1, 1), (7, 112, 89, 1, 1, 1), (7, 118, 114, 1, 0, 4), (7, 122, 94, 1, 1, 1), (7, 126, 91, 1, 1, 1), (7, 135, 90, 1, 1, 1), (7, 155, 78, 1, 1, 1), (7, 161, 117, 1, 0, 3), (8, 21, 67, 1, 1, 1), (8, 27, 87, 1, 1, 1), (8, 33, 95, 1, 1, 2), (9, 35, 122, 0, 0, 2), (9, 39, 123, 1, 0, 2), (9, 46, 124, 1, 0, 2), (9, 55, 87, 1, 1, 1), (9, 62, 98, 1, 1, 2), (10, 31, 128, 1, 0, 0), (11, 17, 84, 2, 1, 1), (11, 27, 86, 1, 1, 1), (12, 157, 177, 1, 0, 0), (12, 172, 138, 1, 0, 0), (12, 182, 139, 0, 0, 1), (12, 186, 143, 1, 0, 0), (12, 192, 144, 1, 0, 0), (12, 195, 140, 0, 0, 1), (12, 198, 142, 1, 0, 1), (12, 204, 247, 1, 0, 0), (12, 209, 248, 1, 0, 1), (12, 219, 141, 1, 0, 0), (12, 222, 145, 1, 0, 1), (12, 225, 150, 0, 0, 4), (12, 229, 155, 1, 0, 1), (12, 233, 152, 1, 0, 3), (12, 237, 157, 1, 0, 1), (12, 243, 151, 1, 0, 3), (12, 246, 149, 1, 0, 2), (12, 250, 156, 1, 0, 1), (12, 253, 159, 1, 0, 1), (12, 256, 160, 1, 0, 1), (12, 259, 161, 1, 0, 0), (12, 262, 162, 1, 0, 0), (12, 265, 163, 1, 0, 0), (12, 268, 164, 1, 0, 0), (12, 271, 147, 1, 0, 1), (12, 277, 153, 1, 0, 0), (12, 280, 148, 1, 0, 0), (12, 283, 154, 1, 0, 0), (12, 286, 167, 1, 0, 0), (12, 292, 168, 1, 0, 0), (12, 295, 146, 1, 0, 1), (12, 298, 166, 1, 0, 0), (12, 301, 165, 1, 0, 2), (12, 305, 169, 1, 0, 0), (12, 308, 170, 1, 0, 0), (12, 311, 171, 1, 0, 0), (12, 314, 172, 1, 0, 0), (12, 320, 158, 1, 0, 0), (12, 326, 173, 0, 0, 1), (12, 343, 189, 0, 0, 1), (12, 357, 190, 1, 0, 1), (12, 360, 186, 1, 0, 2), (12, 366, 191, 1, 0, 1), (12, 375, 192, 1, 0, 1), (12, 378, 193, 1, 0, 4), (12, 382, 194, 0, 0, 3), (12, 386, 195, 1, 0, 2), (12, 389, 196, 1, 0, 2), (12, 393, 184, 1, 0, 2), (12, 396, 185, 1, 0, 2), (12, 399, 183, 1, 0, 2), (12, 404, 199, 1, 0, 3), (12, 408, 198, 1, 0, 2), (12, 411, 197, 1, 0, 2), (12, 415, 187, 1, 0, 3), (12, 419, 200, 1, 0, 1), (12, 422, 201, 1, 0, 1), (12, 425, 202, 1, 0, 1), (12, 428, 203, 1, 0, 2), (12, 430, 180, 1, 0, 1), (12, 433, 188, 1, 0, 0), (12, 436, 205, 1, 0, 1), (12, 439, 182, 1, 0, 1), (12, 446, 204, 1, 0, 1), (12, 458, 211, 1, 0, 1), (12, 461, 213, 1, 0, 2), (12, 467, 214, 1, 0, 3), (12, 477, 216, 1, 0, 1), (12, 480, 215, 1, 0, 1), (12, 483, 178, 1, 0, 2), (12, 486, 218, 1, 0, 0), (12, 492, 221, 1, 0, 2), (12, 495, 222, 1, 0, 3), (12, 498, 223, 1, 0, 0), (12, 501, 181, 1, 0, 1), (12, 504, 232, 1, 0, 0), (12, 507, 236, 1, 0, 1), (12, 510, 179, 1, 0, 2), (15, 335, 249, 1, 0, 0), (15, 492, 250, 1, 0, 0), (15, 495, 252, 0, 0, 2), (15, 1059, 253, 0, 0, 3), (16, 9, 251, 0, 0, 2)]
set_option maxRecDepth 10000 in
theorem CA_ok : ∀ r ∈ CA, CAP r := List.forall_mem_cons.mpr ⟨ca_0, List.forall_mem_cons.mpr ⟨ca_1, List.forall_mem_cons.mpr ⟨ca_2, List.forall_mem_cons.mpr ⟨ca_3, List.forall_mem_cons.mpr ⟨ca_4, List.forall_mem_cons.mpr ⟨ca_5, List.forall_mem_cons.mpr ⟨ca_6, List.forall_mem_cons.mpr ⟨ca_7, List.forall_mem_cons.mpr ⟨ca_8, List.forall_mem_cons.mpr ⟨ca_9, List.forall_mem_cons.mpr ⟨ca_10, List.forall_mem_cons.mpr ⟨ca_11, List.forall_mem_cons.mpr ⟨ca_12, List.forall_mem_cons.mpr ⟨ca_13, List.forall_mem_cons.mpr ⟨ca_14, List.forall_mem_cons.mpr ⟨ca_15, List.forall_mem_cons.mpr ⟨ca_16, List.forall_mem_cons.mpr ⟨ca_17, List.forall_mem_cons.mpr ⟨ca_18, List.forall_mem_cons.mpr ⟨ca_19, List.forall_mem_cons.mpr ⟨ca_20, List.forall_mem_cons.mpr ⟨ca_21, List.forall_mem_cons.mpr ⟨ca_22, List.forall_mem_cons.mpr ⟨ca_23, List.forall_mem_cons.mpr ⟨ca_24, List.forall_mem_cons.mpr ⟨ca_25, List.forall_mem_cons.mpr ⟨ca_26, List.forall_mem_cons.mpr ⟨ca_27, List.forall_mem_cons.mpr ⟨ca_28, List.forall_mem_cons.mpr ⟨ca_29, List.forall_mem_cons.mpr ⟨ca_30, List.forall_mem_cons.mpr ⟨ca_31, List.forall_mem_cons.mpr ⟨ca_32, List.forall_mem_cons.mpr ⟨ca_33, List.forall_mem_cons.mpr ⟨ca_34, List.forall_mem_cons.mpr ⟨ca_35, List.forall_mem_cons.mpr ⟨ca_36, List.forall_mem_cons.mpr ⟨ca_37, List.forall_mem_cons.mpr ⟨ca_38, List.forall_mem_cons.mpr ⟨ca_39, List.forall_mem_cons.mpr ⟨ca_40, List.forall_mem_cons.mpr ⟨ca_41, List.forall_mem_cons.mpr ⟨ca_42, List.forall_mem_cons.mpr ⟨ca_43, List.forall_mem_cons.mpr ⟨ca_44, List.forall_mem_cons.mpr ⟨ca_45, List.forall_mem_cons.mpr ⟨ca_46, List.forall_mem_cons.mpr ⟨ca_47, List.forall_mem_cons.mpr ⟨ca_48, List.forall_mem_cons.mpr ⟨ca_49, List.forall_mem_cons.mpr ⟨ca_50, List.forall_mem_cons.mpr ⟨ca_51, List.forall_mem_cons.mpr ⟨ca_52, List.forall_mem_cons.mpr ⟨ca_53, List.forall_mem_cons.mpr ⟨ca_54, List.forall_mem_cons.mpr ⟨ca_55, List.forall_mem_cons.mpr ⟨ca_56, List.forall_mem_cons.mpr ⟨ca_57, List.forall_mem_cons.mpr ⟨ca_58, List.forall_mem_cons.mpr ⟨ca_59, List.forall_mem_cons.mpr ⟨ca_60, List.forall_mem_cons.mpr ⟨ca_61, List.forall_mem_cons.mpr ⟨ca_62, List.forall_mem_cons.mpr ⟨ca_63, List.forall_mem_cons.mpr ⟨ca_64, List.forall_mem_cons.mpr ⟨ca_65, List.forall_mem_cons.mpr ⟨ca_66, List.forall_mem_cons.mpr ⟨ca_67, List.forall_mem_cons.mpr ⟨ca_68, List.forall_mem_cons.mpr ⟨ca_69, List.forall_mem_cons.mpr ⟨ca_70, List.forall_mem_cons.mpr ⟨ca_71, List.forall_mem_cons.mpr ⟨ca_72, List.forall_mem_cons.mpr ⟨ca_73, List.forall_mem_cons.mpr ⟨ca_74, List.forall_mem_cons.mpr ⟨ca_75, List.forall_mem_cons.mpr ⟨ca_76, List.forall_mem_cons.mpr ⟨ca_77, List.forall_mem_cons.mpr ⟨ca_78, List.forall_mem_cons.mpr ⟨ca_79, List.forall_mem_cons.mpr ⟨ca_80, List.forall_mem_cons.mpr ⟨ca_81, List.forall_mem_cons.mpr ⟨ca_82, List.forall_mem_cons.mpr ⟨ca_83, List.forall_mem_cons.mpr ⟨ca_84, List.forall_mem_cons.mpr ⟨ca_85, List.forall_mem_cons.mpr ⟨ca_86, List.forall_mem_cons.mpr ⟨ca_87, List.forall_mem_cons.mpr ⟨ca_88, List.forall_mem_cons.mpr ⟨ca_89, List.forall_mem_cons.mpr ⟨ca_90, List.forall_mem_cons.mpr ⟨ca_91, List.forall_mem_cons.mpr ⟨ca_92, List.forall_mem_cons.mpr ⟨ca_93, List.forall_mem_cons.mpr ⟨ca_94, List.forall_mem_cons.mpr ⟨ca_95, List.forall_mem_cons.mpr ⟨ca_96, List.forall_mem_cons.mpr ⟨ca_97, List.forall_mem_cons.mpr ⟨ca_98, List.forall_mem_cons.mpr ⟨ca_99, List.forall_mem_cons.mpr ⟨ca_100, List.forall_mem_cons.mpr ⟨ca_101, List.forall_mem_cons.mpr ⟨ca_102, List.forall_mem_cons.mpr ⟨ca_103, List.forall_mem_cons.mpr ⟨ca_104, List.forall_mem_cons.mpr ⟨ca_105, List.forall_mem_cons.mpr ⟨ca_106, List.forall_mem_cons.mpr ⟨ca_107, List.forall_mem_cons.mpr ⟨ca_108, List.forall_mem_cons.mpr ⟨ca_109, List.forall_mem_cons.mpr ⟨ca_110, List.forall_mem_cons.mpr ⟨ca_111, List.forall_mem_cons.mpr ⟨ca_112, List.forall_mem_cons.mpr ⟨ca_113, List.forall_mem_cons.mpr ⟨ca_114, List.forall_mem_cons.mpr ⟨ca_115, List.forall_mem_cons.mpr ⟨ca_116, List.forall_mem_cons.mpr ⟨ca_117, List.forall_mem_cons.mpr ⟨ca_118, List.forall_mem_cons.mpr ⟨ca_119, List.forall_mem_cons.mpr ⟨ca_120, List.forall_mem_cons.mpr ⟨ca_121, List.forall_mem_cons.mpr ⟨ca_122, List.forall_mem_cons.mpr ⟨ca_123, List.forall_mem_cons.mpr ⟨ca_124, List.forall_mem_cons.mpr ⟨ca_125, List.forall_mem_cons.mpr ⟨ca_126, List.forall_mem_cons.mpr ⟨ca_127, List.forall_mem_cons.mpr ⟨ca_128, List.forall_mem_cons.mpr ⟨ca_129, List.forall_mem_cons.mpr ⟨ca_130, List.forall_mem_cons.mpr ⟨ca_131, List.forall_mem_cons.mpr ⟨ca_132, List.forall_mem_cons.mpr ⟨ca_133, List.forall_mem_cons.mpr ⟨ca_134, List.forall_mem_cons.mpr ⟨ca_135, List.forall_mem_cons.mpr ⟨ca_136, List.forall_mem_cons.mpr ⟨ca_137, List.forall_mem_cons.mpr ⟨ca_138, List.forall_mem_cons.mpr ⟨ca_139, List.forall_mem_cons.mpr ⟨ca_140, List.forall_mem_cons.mpr ⟨ca_141, List.forall_mem_cons.mpr ⟨ca_142, List.forall_mem_cons.mpr ⟨ca_143, List.forall_mem_cons.mpr ⟨ca_144, List.forall_mem_cons.mpr ⟨ca_145, List.forall_mem_cons.mpr ⟨ca_146, List.forall_mem_cons.mpr ⟨ca_147, List.forall_mem_cons.mpr ⟨ca_148, List.forall_mem_cons.mpr ⟨ca_149, List.forall_mem_cons.mpr ⟨ca_150, List.forall_mem_cons.mpr ⟨ca_151, List.forall_mem_cons.mpr ⟨ca_152, List.forall_mem_cons.mpr ⟨ca_153, List.forall_mem_cons.mpr ⟨ca_154, List.forall_mem_cons.mpr ⟨ca_155, List.forall_mem_cons.mpr ⟨ca_156, List.forall_mem_cons.mpr ⟨ca_157, List.forall_mem_cons.mpr ⟨ca_158, List.forall_mem_cons.mpr ⟨ca_159, List.forall_mem_cons.mpr ⟨ca_160, List.forall_mem_cons.mpr ⟨ca_161, List.forall_mem_cons.mpr ⟨ca_162, List.forall_mem_cons.mpr ⟨ca_163, List.forall_mem_cons.mpr ⟨ca_164, List.forall_mem_cons.mpr ⟨ca_165, List.forall_mem_cons.mpr ⟨ca_166, List.forall_mem_cons.mpr ⟨ca_167, List.forall_mem_cons.mpr ⟨ca_168, List.forall_mem_cons.mpr ⟨ca_169, List.forall_mem_cons.mpr ⟨ca_170, List.forall_mem_cons.mpr ⟨ca_171, List.forall_mem_cons.mpr ⟨ca_172, List.forall_mem_cons.mpr ⟨ca_173, List.forall_mem_cons.mpr ⟨ca_174, List.forall_mem_cons.mpr ⟨ca_175, List.forall_mem_cons.mpr ⟨ca_176, List.forall_mem_cons.mpr ⟨ca_177, List.forall_mem_cons.mpr ⟨ca_178, List.forall_mem_cons.mpr ⟨ca_179, List.forall_mem_cons.mpr ⟨ca_180, List.forall_mem_cons.mpr ⟨ca_181, List.forall_mem_cons.mpr ⟨ca_182, List.forall_mem_cons.mpr ⟨ca_183, List.forall_mem_cons.mpr ⟨ca_184, List.forall_mem_cons.mpr ⟨ca_185, List.forall_mem_cons.mpr ⟨ca_186, List.forall_mem_cons.mpr ⟨ca_187, List.forall_mem_cons.mpr ⟨ca_188, List.forall_mem_cons.mpr ⟨ca_189, List.forall_mem_cons.mpr ⟨ca_190, List.forall_mem_cons.mpr ⟨ca_191, List.forall_mem_cons.mpr ⟨ca_192, List.forall_mem_cons.mpr ⟨ca_193, List.forall_mem_cons.mpr ⟨ca_194, List.forall_mem_cons.mpr ⟨ca_195, List.forall_mem_cons.mpr ⟨ca_196, List.forall_mem_cons.mpr ⟨ca_197, List.forall_mem_cons.mpr ⟨ca_198, List.forall_mem_cons.mpr ⟨ca_199, List.forall_mem_cons.mpr ⟨ca_200, List.forall_mem_cons.mpr ⟨ca_201, List.forall_mem_cons.mpr ⟨ca_202, List.forall_mem_cons.mpr ⟨ca_203, List.forall_mem_cons.mpr ⟨ca_204, List.forall_mem_cons.mpr ⟨ca_205, List.forall_mem_cons.mpr ⟨ca_206, List.forall_mem_cons.mpr ⟨ca_207, List.forall_mem_cons.mpr ⟨ca_208, List.forall_mem_cons.mpr ⟨ca_209, List.forall_mem_cons.mpr ⟨ca_210, List.forall_mem_cons.mpr ⟨ca_211, List.forall_mem_cons.mpr ⟨ca_212, List.forall_mem_cons.mpr ⟨ca_213, List.forall_mem_cons.mpr ⟨ca_214, List.forall_mem_cons.mpr ⟨ca_215, List.forall_mem_cons.mpr ⟨ca_216, List.forall_mem_cons.mpr ⟨ca_217, List.forall_mem_cons.mpr ⟨ca_218, List.forall_mem_cons.mpr ⟨ca_219, List.forall_mem_cons.mpr ⟨ca_220, List.forall_mem_cons.mpr ⟨ca_221, List.forall_mem_cons.mpr ⟨ca_222, List.forall_mem_cons.mpr ⟨ca_223, List.forall_mem_cons.mpr ⟨ca_224, List.forall_mem_cons.mpr ⟨ca_225, List.forall_mem_cons.mpr ⟨ca_226, List.forall_mem_cons.mpr ⟨ca_227, List.forall_mem_cons.mpr ⟨ca_228, List.forall_mem_cons.mpr ⟨ca_229, List.forall_mem_cons.mpr ⟨ca_230, List.forall_mem_cons.mpr ⟨ca_231, List.forall_mem_cons.mpr ⟨ca_232, List.forall_mem_cons.mpr ⟨ca_233, List.forall_mem_cons.mpr ⟨ca_234, List.forall_mem_cons.mpr ⟨ca_235, List.forall_mem_cons.mpr ⟨ca_236, List.forall_mem_cons.mpr ⟨ca_237, List.forall_mem_cons.mpr ⟨ca_238, List.forall_mem_cons.mpr ⟨ca_239, List.forall_mem_cons.mpr ⟨ca_240, List.forall_mem_cons.mpr ⟨ca_241, List.forall_mem_cons.mpr ⟨ca_242, List.forall_mem_cons.mpr ⟨ca_243, List.forall_mem_cons.mpr ⟨ca_244, List.forall_mem_cons.mpr ⟨ca_245, List.forall_mem_cons.mpr ⟨ca_246, List.forall_mem_cons.mpr ⟨ca_247, List.forall_mem_cons.mpr ⟨ca_248, List.forall_mem_cons.mpr ⟨ca_249, List.forall_mem_cons.mpr ⟨ca_250, List.forall_mem_cons.mpr ⟨ca_251, List.forall_mem_cons.mpr ⟨ca_252, List.forall_mem_cons.mpr ⟨ca_253, List.forall_mem_cons.mpr ⟨ca_254, List.forall_mem_cons.mpr ⟨ca_255, List.forall_mem_cons.mpr ⟨ca_256, List.forall_mem_cons.mpr ⟨ca_257, List.forall_mem_cons.mpr ⟨ca_258, List.forall_mem_cons.mpr ⟨ca_259, List.forall_mem_cons.mpr ⟨ca_260, List.forall_mem_cons.mpr ⟨ca_261, List.forall_mem_cons.mpr ⟨ca_262, List.forall_mem_cons.mpr ⟨ca_263, List.forall_mem_cons.mpr ⟨ca_264, List.forall_mem_cons.mpr ⟨ca_265, List.forall_mem_cons.mpr ⟨ca_266, List.forall_mem_cons.mpr ⟨ca_267, List.forall_mem_cons.mpr ⟨ca_268, List.forall_mem_cons.mpr ⟨ca_269, List.forall_mem_cons.mpr ⟨ca_270, List.forall_mem_cons.mpr ⟨ca_271, List.forall_mem_cons.mpr ⟨ca_272, List.forall_mem_cons.mpr ⟨ca_273, List.forall_mem_cons.mpr ⟨ca_274, List.forall_mem_cons.mpr ⟨ca_275, List.forall_mem_cons.mpr ⟨ca_276, List.forall_mem_cons.mpr ⟨ca_277, List.forall_mem_cons.mpr ⟨ca_278, fun _ h => absurd h List.not_mem_nil⟩⟩⟩⟩⟩⟩⟩⟩⟩⟩⟩⟩⟩⟩⟩⟩⟩⟩⟩⟩⟩⟩⟩⟩⟩⟩⟩⟩⟩⟩⟩⟩⟩⟩⟩⟩⟩⟩⟩⟩⟩⟩⟩⟩⟩⟩⟩⟩⟩⟩⟩⟩⟩⟩⟩⟩⟩⟩⟩⟩⟩⟩⟩⟩⟩⟩⟩⟩⟩⟩⟩⟩⟩⟩⟩⟩⟩⟩⟩⟩⟩⟩⟩⟩⟩⟩⟩⟩⟩⟩⟩⟩⟩⟩⟩⟩⟩⟩⟩⟩⟩⟩⟩⟩⟩⟩⟩⟩⟩⟩⟩⟩⟩⟩⟩⟩⟩⟩⟩⟩⟩⟩⟩⟩⟩⟩⟩⟩⟩⟩⟩⟩⟩⟩⟩⟩⟩⟩⟩⟩⟩⟩⟩⟩⟩⟩⟩⟩⟩⟩⟩⟩⟩⟩⟩⟩⟩⟩⟩⟩⟩⟩⟩⟩⟩⟩⟩⟩⟩⟩⟩⟩⟩⟩⟩⟩⟩⟩⟩⟩⟩⟩⟩⟩⟩⟩⟩⟩⟩⟩⟩⟩⟩⟩⟩⟩⟩⟩⟩⟩⟩⟩⟩⟩⟩⟩⟩⟩⟩⟩⟩⟩⟩⟩⟩⟩⟩⟩⟩⟩⟩⟩⟩⟩⟩⟩⟩⟩⟩⟩⟩⟩⟩⟩⟩⟩⟩⟩⟩⟩⟩⟩⟩⟩⟩⟩⟩⟩⟩⟩⟩⟩⟩⟩⟩⟩⟩⟩⟩⟩⟩⟩⟩⟩⟩⟩⟩⟩⟩⟩⟩⟩⟩⟩⟩⟩⟩⟩⟩
def cnm (k : Nat) : String := if k = 32 then "PaidFaces$Token" else if k = 33 then "java/lang/String" else (CL.getD (k - 20) ("", T_20, 0)).1
def SRl : List (String × String × String × Nat × Int) := [("PaidFaces$Token", "END", "LPaidFaces$Token;", 2, (-1)), ("PaidFaces$1", "$SwitchMap$PaidFaces$Token", "[I", 2, (-41)), ("PaidFaces$Token", "SEMICOLON", "LPaidFaces$Token;", 2, (-5)), ("PaidFaces$Token", "WORD", "LPaidFaces$Token;", 2, (-3)), ("PaidFaces$Token", "NUMBER", "LPaidFaces$Token;", 2, (-4)), ("PaidFaces$Token", "OPENING", "LPaidFaces$Token;", 2, (-6)), ("PaidFaces$Token", "NOT", "LPaidFaces$Token;", 2, (-20)), ("PaidFaces$Token", "CLOSING", "LPaidFaces$Token;", 2, (-7)), ("PaidFaces$Token", "ALL", "[LPaidFaces$Token;", 2, (-40)), ("PaidFaces$Token", "NO_TOKEN", "LPaidFaces$Token;", 2, (-2)), ("PaidFaces$Token", "PLUS", "LPaidFaces$Token;", 2, (-14)), ("PaidFaces$Token", "MINUS", "LPaidFaces$Token;", 2, (-15)), ("PaidFaces$Token", "TIMES", "LPaidFaces$Token;", 2, (-16)), ("PaidFaces$Token", "OVER", "LPaidFaces$Token;", 2, (-17)), ("PaidFaces$Token", "EQUAL", "LPaidFaces$Token;", 2, (-10)), ("PaidFaces$Token", "AT_MOST", "LPaidFaces$Token;", 2, (-9)), ("PaidFaces$Token", "UNEQUAL", "LPaidFaces$Token;", 2, (-11)), ("PaidFaces$Token", "LESS", "LPaidFaces$Token;", 2, (-8)), ("PaidFaces$Token", "AT_LEAST", "LPaidFaces$Token;", 2, (-12)), ("PaidFaces$Token", "GREATER", "LPaidFaces$Token;", 2, (-13)), ("java/lang/String", "COMPACT_STRINGS", "Z", 0, (1)), ("jdk/internal/util/Preconditions", "SIOOBE_FORMATTER", "Ljava/util/function/BiFunction;", 8, (0))]
def SRg (i : Nat) : String × String × String × Nat × Int := SRl.getD i ("", "", "", 9, 0)
def STP (r : Nat × Nat × Nat × Int × Nat × Nat) : Prop := (r.2.2.2.2.2 = 0 → Cond.fieldLink (CN r.1) r.2.1 (SRg r.2.2.2.2.1).1 (SRg r.2.2.2.2.1).2.1 (SRg r.2.2.2.2.1).2.2.1 ∈ lw_tbl) ∧ (r.2.2.2.2.2 = 1 → Cond.fieldLinkNest (CN r.1) r.2.1 (SRg r.2.2.2.2.1).1 (SRg r.2.2.2.2.1).2.1 (SRg r.2.2.2.2.1).2.2.1 "PaidFaces" ∈ lw_tbl) ∧ r.2.2.2.2.2 ≤ 1 ∧ (SRg r.2.2.2.2.1).2.2.2 = (r.2.2.1, r.2.2.2.1) ∧ SRl[r.2.2.2.2.1]? = some (SRg r.2.2.2.2.1)
set_option maxRecDepth 10000 in
theorem st_0 : STP (2, 55, 2, (-1), 0, 0) := ⟨fun _ => (tb_3 _ (List.mem_of_getElem? (i := 149) rfl)), fun h => absurd h (by decide), by decide, by decide +kernel, by decide +kernel⟩
set_option maxRecDepth 10000 in
theorem st_1 : STP (2, 58, 2, (-41), 1, 0) := ⟨fun _ => (tb_3 _ (List.mem_of_getElem? (i := 150) rfl)), fun h => absurd h (by decide), by decide, by decide +kernel, by decide +kernel⟩
set_option maxRecDepth 10000 in
theorem st_2 : STP (2, 97, 2, (-5), 2, 0) := ⟨fun _ => (tb_4 _ (List.mem_of_getElem? (i := 50) rfl)), fun h => absurd h (by decide), by decide, by decide +kernel, by decide +kernel⟩
set_option maxRecDepth 10000 in
theorem st_3 : STP (2, 139, 2, (-3), 3, 0) := ⟨fun _ => (tb_3 _ (List.mem_of_getElem? (i := 175) rfl)), fun h => absurd h (by decide), by decide, by decide +kernel, by decide +kernel⟩
set_option maxRecDepth 10000 in
theorem st_4 : STP (2, 142, 2, (-4), 4, 0) := ⟨fun _ => (tb_3 _ (List.mem_of_getElem? (i := 180) rfl)), fun h => absurd h (by decide), by decide, by decide +kernel, by decide +kernel⟩
set_option maxRecDepth 10000 in
theorem st_5 : STP (2, 215, 2, (-6), 5, 0) := ⟨fun _ => (tb_4 _ (List.mem_of_getElem? (i := 21) rfl)), fun h => absurd h (by decide), by decide, by decide +kernel, by decide +kernel⟩
set_option maxRecDepth 10000 in
theorem st_6 : STP (2, 218, 2, (-20), 6, 0) := ⟨fun _ => (tb_4 _ (List.mem_of_getElem? (i := 26) rfl)), fun h => absurd h (by decide), by decide, by decide +kernel, by decide +kernel⟩
set_option maxRecDepth 10000 in
theorem st_7 : STP (2, 227, 2, (-7), 7, 0) := ⟨fun _ => (tb_4 _ (List.mem_of_getElem? (i := 48) rfl)), fun h => absurd h (by decide), by decide, by decide +kernel, by decide +kernel⟩
set_option maxRecDepth 10000 in
theorem st_8 : STP (3, 13, 2, (-1), 0, 0) := ⟨fun _ => (tb_1 _ (List.mem_of_getElem? (i := 47) rfl)), fun h => absurd h (by decide), by decide, by decide +kernel, by decide +kernel⟩
set_option maxRecDepth 10000 in
theorem st_9 : STP (3, 56, 2, (-40), 8, 1) := ⟨fun h => absurd h (by decide), fun _ => (tb_3 _ (List.mem_of_getElem? (i := 50) rfl)), by decide, by decide +kernel, by decide +kernel⟩
set_option maxRecDepth 10000 in
theorem st_10 : STP (3, 68, 2, (-3), 3, 0) := ⟨fun _ => (tb_3 _ (List.mem_of_getElem? (i := 104) rfl)), fun h => absurd h (by decide), by decide, by decide +kernel, by decide +kernel⟩
set_option maxRecDepth 10000 in
theorem st_11 : STP (3, 71, 2, (-2), 9, 0) := ⟨fun _ => (tb_3 _ (List.mem_of_getElem? (i := 106) rfl)), fun h => absurd h (by decide), by decide, by decide +kernel, by decide +kernel⟩
set_option maxRecDepth 10000 in
theorem st_12 : STP (3, 83, 2, (-4), 4, 0) := ⟨fun _ => (tb_3 _ (List.mem_of_getElem? (i := 112) rfl)), fun h => absurd h (by decide), by decide, by decide +kernel, by decide +kernel⟩
set_option maxRecDepth 10000 in
theorem st_13 : STP (3, 90, 2, (-5), 2, 0) := ⟨fun _ => (tb_3 _ (List.mem_of_getElem? (i := 119) rfl)), fun h => absurd h (by decide), by decide, by decide +kernel, by decide +kernel⟩
set_option maxRecDepth 10000 in
theorem st_14 : STP (3, 93, 2, (-6), 5, 0) := ⟨fun _ => (tb_3 _ (List.mem_of_getElem? (i := 121) rfl)), fun h => absurd h (by decide), by decide, by decide +kernel, by decide +kernel⟩
set_option maxRecDepth 10000 in
theorem st_15 : STP (3, 96, 2, (-7), 7, 0) := ⟨fun _ => (tb_3 _ (List.mem_of_getElem? (i := 123) rfl)), fun h => absurd h (by decide), by decide, by decide +kernel, by decide +kernel⟩
set_option maxRecDepth 10000 in
theorem st_16 : STP (3, 99, 2, (-14), 10, 0) := ⟨fun _ => (tb_3 _ (List.mem_of_getElem? (i := 125) rfl)), fun h => absurd h (by decide), by decide, by decide +kernel, by decide +kernel⟩
set_option maxRecDepth 10000 in
theorem st_17 : STP (3, 102, 2, (-15), 11, 0) := ⟨fun _ => (tb_3 _ (List.mem_of_getElem? (i := 127) rfl)), fun h => absurd h (by decide), by decide, by decide +kernel, by decide +kernel⟩
set_option maxRecDepth 10000 in
theorem st_18 : STP (3, 105, 2, (-16), 12, 0) := ⟨fun _ => (tb_3 _ (List.mem_of_getElem? (i := 129) rfl)), fun h => absurd h (by decide), by decide, by decide +kernel, by decide +kernel⟩
set_option maxRecDepth 10000 in
theorem st_19 : STP (3, 108, 2, (-17), 13, 0) := ⟨fun _ => (tb_3 _ (List.mem_of_getElem? (i := 131) rfl)), fun h => absurd h (by decide), by decide, by decide +kernel, by decide +kernel⟩
set_option maxRecDepth 10000 in
theorem st_20 : STP (3, 111, 2, (-10), 14, 0) := ⟨fun _ => (tb_3 _ (List.mem_of_getElem? (i := 133) rfl)), fun h => absurd h (by decide), by decide, by decide +kernel, by decide +kernel⟩
set_option maxRecDepth 10000 in
theorem st_21 : STP (3, 118, 2, (-9), 15, 0) := ⟨fun _ => (tb_3 _ (List.mem_of_getElem? (i := 139) rfl)), fun h => absurd h (by decide), by decide, by decide +kernel, by decide +kernel⟩
set_option maxRecDepth 10000 in
theorem st_22 : STP (3, 121, 2, (-11), 16, 0) := ⟨fun _ => (tb_3 _ (List.mem_of_getElem? (i := 141) rfl)), fun h => absurd h (by decide), by decide, by decide +kernel, by decide +kernel⟩
set_option maxRecDepth 10000 in
theorem st_23 : STP (3, 124, 2, (-8), 17, 0) := ⟨fun _ => (tb_3 _ (List.mem_of_getElem? (i := 143) rfl)), fun h => absurd h (by decide), by decide, by decide +kernel, by decide +kernel⟩
set_option maxRecDepth 10000 in
theorem st_24 : STP (3, 127, 2, (-12), 18, 0) := ⟨fun _ => (tb_3 _ (List.mem_of_getElem? (i := 145) rfl)), fun h => absurd h (by decide), by decide, by decide +kernel, by decide +kernel⟩
set_option maxRecDepth 10000 in
theorem st_25 : STP (3, 130, 2, (-13), 19, 0) := ⟨fun _ => (tb_3 _ (List.mem_of_getElem? (i := 147) rfl)), fun h => absurd h (by decide), by decide, by decide +kernel, by decide +kernel⟩
set_option maxRecDepth 10000 in
theorem st_26 : STP (5, 37, 2, (-20), 6, 0) := ⟨fun _ => (tb_4 _ (List.mem_of_getElem? (i := 112) rfl)), fun h => absurd h (by decide), by decide, by decide +kernel, by decide +kernel⟩
set_option maxRecDepth 10000 in
theorem st_27 : STP (5, 49, 2, (-41), 1, 0) := ⟨fun _ => (tb_4 _ (List.mem_of_getElem? (i := 116) rfl)), fun h => absurd h (by decide), by decide, by decide +kernel, by decide +kernel⟩
set_option maxRecDepth 10000 in
theorem st_28 : STP (15, 38, 0, 1, 20, 0) := ⟨fun _ => (tb_3 _ (List.mem_of_getElem? (i := 64) rfl)), fun h => absurd h (by decide), by decide, by decide +kernel, by decide +kernel⟩
set_option maxRecDepth 10000 in
theorem st_29 : STP (15, 1053, 8, 0, 21, 0) := ⟨fun _ => (tb_3 _ (List.mem_of_getElem? (i := 80) rfl)), fun h => absurd h (by decide), by decide, by decide +kernel, by decide +kernel⟩
def ST : List (Nat × Nat × Nat × Int × Nat × Nat) := [(2, 55, 2, (-1), 0, 0), (2, 58, 2, (-41), 1, 0), (2, 97, 2, (-5), 2, 0), (2, 139, 2, (-3), 3, 0), (2, 142, 2, (-4), 4, 0), (2, 215, 2, (-6), 5, 0), (2, 218, 2, (-20), 6, 0), (2, 227, 2, (-7), 7, 0), (3, 13, 2, (-1), 0, 0), (3, 56, 2, (-40), 8, 1), (3, 68, 2, (-3), 3, 0), (3, 71, 2, (-2), 9, 0), (3, 83, 2, (-4), 4, 0), (3, 90, 2, (-5), 2, 0), (3, 93, 2, (-6), 5, 0), (3, 96, 2, (-7), 7, 0), (3, 99, 2, (-14), 10, 0), (3, 102, 2, (-15), 11, 0), (3, 105, 2, (-16), 12, 0), (3, 108, 2, (-17), 13, 0), (3, 111, 2, (-10), 14, 0), (3, 118, 2, (-9), 15, 0), (3, 121, 2, (-11), 16, 0), (3, 124, 2, (-8), 17, 0), (3, 127, 2, (-12), 18, 0), (3, 130, 2, (-13), 19, 0), (5, 37, 2, (-20), 6, 0), (5, 49, 2, (-41), 1, 0), (15, 38, 0, 1, 20, 0), (15, 1053, 8, 0, 21, 0)]
set_option maxRecDepth 10000 in
theorem ST_ok : ∀ r ∈ ST, STP r := List.forall_mem_cons.mpr ⟨st_0, List.forall_mem_cons.mpr ⟨st_1, List.forall_mem_cons.mpr ⟨st_2, List.forall_mem_cons.mpr ⟨st_3, List.forall_mem_cons.mpr ⟨st_4, List.forall_mem_cons.mpr ⟨st_5, List.forall_mem_cons.mpr ⟨st_6, List.forall_mem_cons.mpr ⟨st_7, List.forall_mem_cons.mpr ⟨st_8, List.forall_mem_cons.mpr ⟨st_9, List.forall_mem_cons.mpr ⟨st_10, List.forall_mem_cons.mpr ⟨st_11, List.forall_mem_cons.mpr ⟨st_12, List.forall_mem_cons.mpr ⟨st_13, List.forall_mem_cons.mpr ⟨st_14, List.forall_mem_cons.mpr ⟨st_15, List.forall_mem_cons.mpr ⟨st_16, List.forall_mem_cons.mpr ⟨st_17, List.forall_mem_cons.mpr ⟨st_18, List.forall_mem_cons.mpr ⟨st_19, List.forall_mem_cons.mpr ⟨st_20, List.forall_mem_cons.mpr ⟨st_21, List.forall_mem_cons.mpr ⟨st_22, List.forall_mem_cons.mpr ⟨st_23, List.forall_mem_cons.mpr ⟨st_24, List.forall_mem_cons.mpr ⟨st_25, List.forall_mem_cons.mpr ⟨st_26, List.forall_mem_cons.mpr ⟨st_27, List.forall_mem_cons.mpr ⟨st_28, List.forall_mem_cons.mpr ⟨st_29, fun _ h => absurd h List.not_mem_nil⟩⟩⟩⟩⟩⟩⟩⟩⟩⟩⟩⟩⟩⟩⟩⟩⟩⟩⟩⟩⟩⟩⟩⟩⟩⟩⟩⟩⟩⟩
def NWP (r : Nat × Nat × Nat) : Prop := Cond.classLink (CN r.1) r.2.1 (cnm r.2.2) ∈ lw_tbl ∧ 20 ≤ r.2.2 ∧ r.2.2 < 32
set_option maxRecDepth 10000 in
theorem nw_0 : NWP (0, 8, 30) := ⟨(tb_1 _ (List.mem_of_getElem? (i := 27) rfl)), by decide, by decide⟩
set_option maxRecDepth 10000 in
theorem nw_1 : NWP (0, 18, 31) := ⟨(tb_6 _ (List.mem_of_getElem? (i := 30) rfl)), by decide, by decide⟩
set_option maxRecDepth 10000 in
theorem nw_2 : NWP (1, 15, 25) := ⟨(tb_1 _ (List.mem_of_getElem? (i := 35) rfl)), by decide, by decide⟩
set_option maxRecDepth 10000 in
theorem nw_3 : NWP (1, 22, 21) := ⟨(tb_2 _ (List.mem_of_getElem? (i := 4) rfl)), by decide, by decide⟩
set_option maxRecDepth 10000 in
theorem nw_4 : NWP (1, 32, 29) := ⟨(tb_2 _ (List.mem_of_getElem? (i := 6) rfl)), by decide, by decide⟩
set_option maxRecDepth 10000 in
theorem nw_5 : NWP (1, 47, 26) := ⟨(tb_2 _ (List.mem_of_getElem? (i := 74) rfl)), by decide, by decide⟩
set_option maxRecDepth 10000 in
theorem nw_6 : NWP (1, 54, 24) := ⟨(tb_2 _ (List.mem_of_getElem? (i := 94) rfl)), by decide, by decide⟩
set_option maxRecDepth 10000 in
theorem nw_7 : NWP (1, 66, 20) := ⟨(tb_2 _ (List.mem_of_getElem? (i := 135) rfl)), by decide, by decide⟩
set_option maxRecDepth 10000 in
theorem nw_8 : NWP (1, 73, 23) := ⟨(tb_2 _ (List.mem_of_getElem? (i := 157) rfl)), by decide, by decide⟩
set_option maxRecDepth 10000 in
theorem nw_9 : NWP (1, 80, 28) := ⟨(tb_2 _ (List.mem_of_getElem? (i := 179) rfl)), by decide, by decide⟩
set_option maxRecDepth 10000 in
theorem nw_10 : NWP (2, 9, 27) := ⟨(tb_1 _ (List.mem_of_getElem? (i := 41) rfl)), by decide, by decide⟩
set_option maxRecDepth 10000 in
theorem nw_11 : NWP (2, 18, 21) := ⟨(tb_1 _ (List.mem_of_getElem? (i := 76) rfl)), by decide, by decide⟩
set_option maxRecDepth 10000 in
theorem nw_12 : NWP (4, 54, 22) := ⟨(tb_1 _ (List.mem_of_getElem? (i := 84) rfl)), by decide, by decide⟩
set_option maxRecDepth 10000 in
theorem nw_13 : NWP (11, 9, 29) := ⟨(tb_2 _ (List.mem_of_getElem? (i := 80) rfl)), by decide, by decide⟩
def NW : List (Nat × Nat × Nat) := [(0, 8, 30), (0, 18, 31), (1, 15, 25), (1, 22, 21), (1, 32, 29), (1, 47, 26), (1, 54, 24), (1, 66, 20), (1, 73, 23), (1, 80, 28), (2, 9, 27), (2, 18, 21), (4, 54, 22), (11, 9, 29)]
set_option maxRecDepth 10000 in
theorem NW_ok : ∀ r ∈ NW, NWP r := List.forall_mem_cons.mpr ⟨nw_0, List.forall_mem_cons.mpr ⟨nw_1, List.forall_mem_cons.mpr ⟨nw_2, List.forall_mem_cons.mpr ⟨nw_3, List.forall_mem_cons.mpr ⟨nw_4, List.forall_mem_cons.mpr ⟨nw_5, List.forall_mem_cons.mpr ⟨nw_6, List.forall_mem_cons.mpr ⟨nw_7, List.forall_mem_cons.mpr ⟨nw_8, List.forall_mem_cons.mpr ⟨nw_9, List.forall_mem_cons.mpr ⟨nw_10, List.forall_mem_cons.mpr ⟨nw_11, List.forall_mem_cons.mpr ⟨nw_12, List.forall_mem_cons.mpr ⟨nw_13, fun _ h => absurd h List.not_mem_nil⟩⟩⟩⟩⟩⟩⟩⟩⟩⟩⟩⟩⟩⟩
def elc (k : Nat) : String := if k = 5 then "PaidFaces$Token" else if k = 6 then "PaidFaces$Law" else "PaidFaces$State"
def ANP (r : Nat × Nat × Nat) : Prop := Cond.classLink (CN r.1) r.2.1 (elc r.2.2) ∈ lw_tbl ∧ 5 ≤ r.2.2 ∧ r.2.2 < 8
set_option maxRecDepth 10000 in
theorem an_0 : ANP (2, 25, 5) := ⟨(tb_1 _ (List.mem_of_getElem? (i := 212) rfl)), by decide, by decide⟩
set_option maxRecDepth 10000 in
theorem an_1 : ANP (4, 54, 6) := ⟨(tb_1 _ (List.mem_of_getElem? (i := 84) rfl)), by decide, by decide⟩
set_option maxRecDepth 10000 in
theorem an_2 : ANP (5, 9, 5) := ⟨(tb_1 _ (List.mem_of_getElem? (i := 91) rfl)), by decide, by decide⟩
set_option maxRecDepth 10000 in
theorem an_3 : ANP (11, 9, 7) := ⟨(tb_2 _ (List.mem_of_getElem? (i := 80) rfl)), by decide, by decide⟩
def AN : List (Nat × Nat × Nat) := [(2, 25, 5), (4, 54, 6), (5, 9, 5), (11, 9, 7)]
set_option maxRecDepth 10000 in
theorem AN_ok : ∀ r ∈ AN, ANP r := List.forall_mem_cons.mpr ⟨an_0, List.forall_mem_cons.mpr ⟨an_1, List.forall_mem_cons.mpr ⟨an_2, List.forall_mem_cons.mpr ⟨an_3, fun _ h => absurd h List.not_mem_nil⟩⟩⟩⟩
def MUP (r : Nat × Nat × Nat) : Prop := Cond.classLink (CN r.1) r.2.1 "[[I" ∈ lw_tbl
set_option maxRecDepth 10000 in
theorem mu_0 : MUP (1, 61, 0) := (tb_2 _ (List.mem_of_getElem? (i := 134) rfl))
set_option maxRecDepth 10000 in
theorem mu_1 : MUP (4, 45, 0) := (tb_1 _ (List.mem_of_getElem? (i := 82) rfl))
set_option maxRecDepth 10000 in
theorem mu_2 : MUP (9, 15, 0) := (tb_2 _ (List.mem_of_getElem? (i := 163) rfl))
def MU : List (Nat × Nat × Nat) := [(1, 61, 0), (4, 45, 0), (9, 15, 0)]
set_option maxRecDepth 10000 in
theorem MU_ok : ∀ r ∈ MU, MUP r := List.forall_mem_cons.mpr ⟨mu_0, List.forall_mem_cons.mpr ⟨mu_1, List.forall_mem_cons.mpr ⟨mu_2, fun _ h => absurd h List.not_mem_nil⟩⟩⟩
def KIP (r : Nat × Nat × Int) : Prop := Cond.constant (CN r.1) r.2.1 (Int32.ofInt r.2.2) ∈ lw_tbl ∧ -2147483648 ≤ r.2.2 ∧ r.2.2 < 2147483648
set_option maxRecDepth 10000 in
theorem ki_0 : KIP (3, 89, 100000) := ⟨(tb_3 _ (List.mem_of_getElem? (i := 114) rfl)), by decide, by decide⟩
def KI : List (Nat × Nat × Int) := [(3, 89, 100000)]
set_option maxRecDepth 10000 in
theorem KI_ok : ∀ r ∈ KI, KIP r := List.forall_mem_cons.mpr ⟨ki_0, fun _ h => absurd h List.not_mem_nil⟩
def KLP (r : Nat × Nat × Int) : Prop := Cond.constantLong (CN r.1) r.2.1 (Int64.ofInt r.2.2) ∈ lw_tbl ∧ -9223372036854775808 ≤ r.2.2 ∧ r.2.2 < 9223372036854775808
set_option maxRecDepth 10000 in
theorem kl_0 : KLP (1, 188, (-9223372036854775808)) := ⟨(tb_4 _ (List.mem_of_getElem? (i := 148) rfl)), by decide, by decide⟩
set_option maxRecDepth 10000 in
theorem kl_1 : KLP (5, 29, (-9223372036854775808)) := ⟨(tb_4 _ (List.mem_of_getElem? (i := 111) rfl)), by decide, by decide⟩
set_option maxRecDepth 10000 in
theorem kl_2 : KLP (5, 45, 1000000000000) := ⟨(tb_4 _ (List.mem_of_getElem? (i := 118) rfl)), by decide, by decide⟩
set_option maxRecDepth 10000 in
theorem kl_3 : KLP (5, 47, (-1000000000000)) := ⟨(tb_4 _ (List.mem_of_getElem? (i := 119) rfl)), by decide, by decide⟩
set_option maxRecDepth 10000 in
theorem kl_4 : KLP (6, 95, (-9223372036854775808)) := ⟨(tb_4 _ (List.mem_of_getElem? (i := 91) rfl)), by decide, by decide⟩
set_option maxRecDepth 10000 in
theorem kl_5 : KLP (6, 100, 999) := ⟨(tb_4 _ (List.mem_of_getElem? (i := 120) rfl)), by decide, by decide⟩
set_option maxRecDepth 10000 in
theorem kl_6 : KLP (7, 147, 999) := ⟨(tb_5 _ (List.mem_of_getElem? (i := 7) rfl)), by decide, by decide⟩
set_option maxRecDepth 10000 in
theorem kl_7 : KLP (12, 353, 1000000000000) := ⟨(tb_8 _ (List.mem_of_getElem? (i := 6) rfl)), by decide, by decide⟩
set_option maxRecDepth 10000 in
theorem kl_8 : KLP (12, 355, (-1000000000000)) := ⟨(tb_8 _ (List.mem_of_getElem? (i := 7) rfl)), by decide, by decide⟩
set_option maxRecDepth 10000 in
theorem kl_9 : KLP (12, 444, (-9223372036854775808)) := ⟨(tb_8 _ (List.mem_of_getElem? (i := 25) rfl)), by decide, by decide⟩
def KL : List (Nat × Nat × Int) := [(1, 188, (-9223372036854775808)), (5, 29, (-9223372036854775808)), (5, 45, 1000000000000), (5, 47, (-1000000000000)), (6, 95, (-9223372036854775808)), (6, 100, 999), (7, 147, 999), (12, 353, 1000000000000), (12, 355, (-1000000000000)), (12, 444, (-9223372036854775808))]
set_option maxRecDepth 10000 in
theorem KL_ok : ∀ r ∈ KL, KLP r := List.forall_mem_cons.mpr ⟨kl_0, List.forall_mem_cons.mpr ⟨kl_1, List.forall_mem_cons.mpr ⟨kl_2, List.forall_mem_cons.mpr ⟨kl_3, List.forall_mem_cons.mpr ⟨kl_4, List.forall_mem_cons.mpr ⟨kl_5, List.forall_mem_cons.mpr ⟨kl_6, List.forall_mem_cons.mpr ⟨kl_7, List.forall_mem_cons.mpr ⟨kl_8, List.forall_mem_cons.mpr ⟨kl_9, fun _ h => absurd h List.not_mem_nil⟩⟩⟩⟩⟩⟩⟩⟩⟩⟩
def STRs : List (String × Nat × String) := [("PaidFaces", 132, "no such sitter"), ("PaidFaces", 158, "no such what"), ("PaidFacesModel", 202, "feature sitter wants kin twin heir hail law price pick bid or and not base left purse owned day till paid "), ("PaidFaces$Token", 135, ""), ("PaidFaces$Token", 183, "not"), ("PaidFaces$Token", 177, "or"), ("PaidFaces$Token", 180, "and"), ("PaidFaces$Token", 186, "feature"), ("PaidFaces$Token", 192, "sitter"), ("PaidFaces$Token", 195, "wants"), ("PaidFaces$Token", 198, "kin"), ("PaidFaces$Token", 201, "twin"), ("PaidFaces$Token", 204, "heir"), ("PaidFaces$Token", 207, "hail"), ("PaidFaces$Token", 210, "law"), ("PaidFaces$Token", 213, "price"), ("PaidFaces$Token", 216, "pick"), ("PaidFaces$Token", 219, "bid"), ("PaidFaces$Token", 222, "base"), ("PaidFaces$Token", 225, "left"), ("PaidFaces$Token", 228, "purse"), ("PaidFaces$Token", 231, "owned"), ("PaidFaces$Token", 234, "day"), ("PaidFaces$Token", 237, "till"), ("PaidFaces$Token", 240, "paid")]
def SGP (r : Nat × Nat × Int) : Prop := ∃ q, STRs[(-100 - r.2.2).toNat]? = some q ∧ CN r.1 = q.1 ∧ r.2.1 = q.2.1 ∧ Cond.stringRef q.1 q.2.1 q.2.2 ∈ lw_tbl
set_option maxRecDepth 10000 in
theorem sg_0 : SGP (12, 202, (-102)) := ⟨_, rfl, by decide +kernel, by decide +kernel, (tb_7 _ (List.mem_of_getElem? (i := 47) rfl))⟩
def SG : List (Nat × Nat × Int) := [(12, 202, (-102))]
set_option maxRecDepth 10000 in
theorem SG_ok : ∀ r ∈ SG, SGP r := List.forall_mem_cons.mpr ⟨sg_0, fun _ h => absurd h List.not_mem_nil⟩
