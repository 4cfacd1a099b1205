/-! the tables that join the small machine's code with the claim's own words (printed by a program from the claim's listing) -/
def tbs : List (List Cond) := [tables_1_1, tables_1_2, tables_1_3, tables_1_4, tables_1_5, tables_1_6, tables_1_7, tables_1_8, tables_1_9]
theorem tb_1 : ∀ w ∈ tables_1_1, w ∈ lw_tbl := fun w h => List.mem_append_right _ (show w ∈ tables_1 from List.mem_append_left _ h)
theorem tb_2 : ∀ w ∈ tables_1_2, w ∈ lw_tbl := fun w h => List.mem_append_right _ (show w ∈ tables_1 from List.mem_append_right _ (List.mem_append_left _ h))
theorem tb_3 : ∀ w ∈ tables_1_3, w ∈ lw_tbl := fun w h => List.mem_append_right _ (show w ∈ tables_1 from List.mem_append_right _ (List.mem_append_right _ (List.mem_append_left _ h)))
theorem tb_4 : ∀ w ∈ tables_1_4, w ∈ lw_tbl := fun w h => List.mem_append_right _ (show w ∈ tables_1 from List.mem_append_right _ (List.mem_append_right _ (List.mem_append_right _ (List.mem_append_left _ h))))
theorem tb_5 : ∀ w ∈ tables_1_5, w ∈ lw_tbl := fun w h => List.mem_append_right _ (show w ∈ tables_1 from List.mem_append_right _ (List.mem_append_right _ (List.mem_append_right _ (List.mem_append_right _ (List.mem_append_left _ h)))))
theorem tb_6 : ∀ w ∈ tables_1_6, w ∈ lw_tbl := fun w h => List.mem_append_right _ (show w ∈ tables_1 from List.mem_append_right _ (List.mem_append_right _ (List.mem_append_right _ (List.mem_append_right _ (List.mem_append_right _ (List.mem_append_left _ h))))))
theorem tb_7 : ∀ w ∈ tables_1_7, w ∈ lw_tbl := fun w h => List.mem_append_right _ (show w ∈ tables_1 from List.mem_append_right _ (List.mem_append_right _ (List.mem_append_right _ (List.mem_append_right _ (List.mem_append_right _ (List.mem_append_right _ (List.mem_append_left _ h)))))))
theorem tb_8 : ∀ w ∈ tables_1_8, w ∈ lw_tbl := fun w h => List.mem_append_right _ (show w ∈ tables_1 from List.mem_append_right _ (List.mem_append_right _ (List.mem_append_right _ (List.mem_append_right _ (List.mem_append_right _ (List.mem_append_right _ (List.mem_append_right _ (List.mem_append_left _ h))))))))
theorem tb_9 : ∀ w ∈ tables_1_9, w ∈ lw_tbl := fun w h => List.mem_append_right _ (show w ∈ tables_1 from List.mem_append_right _ (List.mem_append_right _ (List.mem_append_right _ (List.mem_append_right _ (List.mem_append_right _ (List.mem_append_right _ (List.mem_append_right _ (List.mem_append_right _ (h)))))))))
theorem tp_1 : ∀ w ∈ k2_sels lw_privs_1, w ∈ lw_tbl := fun w h => List.mem_append_left _ (by unfold k2_sels at h ⊢; obtain ⟨q, hq, rfl⟩ := List.mem_map.mp h; exact List.mem_map_of_mem (show q ∈ lw_privs from (fun h => List.mem_append_left _ h) hq))
theorem tp_2 : ∀ w ∈ k2_sels lw_privs_2, w ∈ lw_tbl := fun w h => List.mem_append_left _ (by unfold k2_sels at h ⊢; obtain ⟨q, hq, rfl⟩ := List.mem_map.mp h; exact List.mem_map_of_mem (show q ∈ lw_privs from (fun h => List.mem_append_right _ (List.mem_append_left _ h)) hq))
theorem tp_3 : ∀ w ∈ k2_sels lw_privs_3, w ∈ lw_tbl := fun w h => List.mem_append_left _ (by unfold k2_sels at h ⊢; obtain ⟨q, hq, rfl⟩ := List.mem_map.mp h; exact List.mem_map_of_mem (show q ∈ lw_privs from (fun h => List.mem_append_right _ (List.mem_append_right _ (List.mem_append_left _ h))) hq))
theorem tp_4 : ∀ w ∈ k2_sels lw_privs_4, w ∈ lw_tbl := fun w h => List.mem_append_left _ (by unfold k2_sels at h ⊢; obtain ⟨q, hq, rfl⟩ := List.mem_map.mp h; exact List.mem_map_of_mem (show q ∈ lw_privs from (fun h => List.mem_append_right _ (List.mem_append_right _ (List.mem_append_right _ (List.mem_append_left _ h)))) hq))
theorem tp_5 : ∀ w ∈ k2_sels lw_privs_5, w ∈ lw_tbl := fun w h => List.mem_append_left _ (by unfold k2_sels at h ⊢; obtain ⟨q, hq, rfl⟩ := List.mem_map.mp h; exact List.mem_map_of_mem (show q ∈ lw_privs from (fun h => List.mem_append_right _ (List.mem_append_right _ (List.mem_append_right _ (List.mem_append_right _ (List.mem_append_left _ h))))) hq))
theorem tp_6 : ∀ w ∈ k2_sels lw_privs_6, w ∈ lw_tbl := fun w h => List.mem_append_left _ (by unfold k2_sels at h ⊢; obtain ⟨q, hq, rfl⟩ := List.mem_map.mp h; exact List.mem_map_of_mem (show q ∈ lw_privs from (fun h => List.mem_append_right _ (List.mem_append_right _ (List.mem_append_right _ (List.mem_append_right _ (List.mem_append_right _ (List.mem_append_left _ h)))))) hq))
theorem tp_7 : ∀ w ∈ k2_sels lw_privs_7, w ∈ lw_tbl := fun w h => List.mem_append_left _ (by unfold k2_sels at h ⊢; obtain ⟨q, hq, rfl⟩ := List.mem_map.mp h; exact List.mem_map_of_mem (show q ∈ lw_privs from (fun h => List.mem_append_right _ (List.mem_append_right _ (List.mem_append_right _ (List.mem_append_right _ (List.mem_append_right _ (List.mem_append_right _ (List.mem_append_left _ h))))))) hq))
theorem tp_8 : ∀ w ∈ k2_sels lw_privs_8, w ∈ lw_tbl := fun w h => List.mem_append_left _ (by unfold k2_sels at h ⊢; obtain ⟨q, hq, rfl⟩ := List.mem_map.mp h; exact List.mem_map_of_mem (show q ∈ lw_privs from (fun h => List.mem_append_right _ (List.mem_append_right _ (List.mem_append_right _ (List.mem_append_right _ (List.mem_append_right _ (List.mem_append_right _ (List.mem_append_right _ (List.mem_append_left _ h)))))))) hq))
theorem tp_9 : ∀ w ∈ k2_sels lw_privs_9, w ∈ lw_tbl := fun w h => List.mem_append_left _ (by unfold k2_sels at h ⊢; obtain ⟨q, hq, rfl⟩ := List.mem_map.mp h; exact List.mem_map_of_mem (show q ∈ lw_privs from (fun h => List.mem_append_right _ (List.mem_append_right _ (List.mem_append_right _ (List.mem_append_right _ (List.mem_append_right _ (List.mem_append_right _ (List.mem_append_right _ (List.mem_append_right _ (List.mem_append_left _ h))))))))) hq))
theorem tp_10 : ∀ w ∈ k2_sels lw_privs_10, w ∈ lw_tbl := fun w h => List.mem_append_left _ (by unfold k2_sels at h ⊢; obtain ⟨q, hq, rfl⟩ := List.mem_map.mp h; exact List.mem_map_of_mem (show q ∈ lw_privs from (fun h => List.mem_append_right _ (List.mem_append_right _ (List.mem_append_right _ (List.mem_append_right _ (List.mem_append_right _ (List.mem_append_right _ (List.mem_append_right _ (List.mem_append_right _ (List.mem_append_right _ (List.mem_append_left _ h)))))))))) hq))
theorem tp_11 : ∀ w ∈ k2_sels lw_privs_11, w ∈ lw_tbl := fun w h => List.mem_append_left _ (by unfold k2_sels at h ⊢; obtain ⟨q, hq, rfl⟩ := List.mem_map.mp h; exact List.mem_map_of_mem (show q ∈ lw_privs from (fun h => List.mem_append_right _ (List.mem_append_right _ (List.mem_append_right _ (List.mem_append_right _ (List.mem_append_right _ (List.mem_append_right _ (List.mem_append_right _ (List.mem_append_right _ (List.mem_append_right _ (List.mem_append_right _ (h))))))))))) hq))
def dtg (d : String) : Nat := if d = "I" then 0 else if d = "Z" then 0 else if d = "B" then 0 else if d = "C" then 0 else if d = "J" then 1 else 2
def tyd (t : FieldType) (d : String) : Bool := match t with
  | .int => d == "I" | .boolean => d == "Z" | .long => d == "J" | .object _ => dtg d == 2 | .array _ => dtg d == 2 | _ => false
def CNs : List String := ["PaidFacesLaw", "PaidFaces", "PaidFaces$Parser", "PaidFaces$Reader", "PaidFaces$Book", "PaidFaces$Law", "PaidFaces$State", "PaidFaces$Painter", "PaidFaces$Auction", "PaidFaces$Matching", "PaidFaces$Seen", "PaidFaces$Past", "PaidFacesModel", "java/lang/Enum", "java/lang/Math", "java/lang/String", "java/lang/StringLatin1", "jdk/internal/util/Preconditions"]
def CN (o : Nat) : String := CNs.getD o ""
def T_20 : u_T := fun k => match k with
  | 0 => ("PaidFaces$Auction", "limit", "[I", true)
  | 1 => ("PaidFaces$Auction", "winner", "I", false)
  | 2 => ("PaidFaces$Auction", "price", "I", false)
  | _ => ("PaidFaces$Auction", "round", "I", false)
def T_21 : u_T := fun k => match k with
  | 0 => ("PaidFaces$Book", "features", "I", false)
  | 1 => ("PaidFaces$Book", "featureName", "[I", true)
  | 2 => ("PaidFaces$Book", "base", "[I", true)
  | 3 => ("PaidFaces$Book", "size", "[I", true)
  | 4 => ("PaidFaces$Book", "sitters", "I", false)
  | 5 => ("PaidFaces$Book", "sitterName", "[I", true)
  | 6 => ("PaidFaces$Book", "purse", "[I", true)
  | 7 => ("PaidFaces$Book", "rate", "[I", true)
  | 8 => ("PaidFaces$Book", "twins", "I", false)
  | 9 => ("PaidFaces$Book", "twin", "[I", true)
  | 10 => ("PaidFaces$Book", "heir", "[I", true)
  | 11 => ("PaidFaces$Book", "pieces", "I", false)
  | 12 => ("PaidFaces$Book", "pieceSitter", "[I", true)
  | 13 => ("PaidFaces$Book", "pieceFeature", "[I", true)
  | 14 => ("PaidFaces$Book", "pieceDay", "[I", true)
  | 15 => ("PaidFaces$Book", "kin", "I", false)
  | 16 => ("PaidFaces$Book", "kinRows", "[[I", true)
  | 17 => ("PaidFaces$Book", "hailTold", "Z", false)
  | 18 => ("PaidFaces$Book", "hail", "[Z", true)
  | _ => ("PaidFaces$Book", "laws", "[LPaidFaces$Law;", true)
def T_22 : u_T := fun k => match k with
  | 0 => ("PaidFaces$Law", "knots", "[LPaidFaces$Token;", true)
  | 1 => ("PaidFaces$Law", "numbers", "[I", true)
  | 2 => ("PaidFaces$Law", "stack", "[J", true)
  | _ => ("PaidFaces$Law", "length", "I", false)
def T_23 : u_T := fun k => match k with
  | 0 => ("PaidFaces$Matching", "takers", "[I", true)
  | 1 => ("PaidFaces$Matching", "most", "[[I", true)
  | 2 => ("PaidFaces$Matching", "taker", "[I", true)
  | _ => ("PaidFaces$Matching", "taken", "I", false)
def T_24 : u_T := fun k => match k with
  | 0 => ("PaidFaces$Painter", "coin", "I", false)
  | 1 => ("PaidFaces$Painter", "painted", "I", false)
  | 2 => ("PaidFaces$Painter", "lapses", "I", false)
  | 3 => ("PaidFaces$Painter", "hungSum", "I", false)
  | 4 => ("PaidFaces$Painter", "hungStrokes", "I", false)
  | 5 => ("PaidFaces$Painter", "hungPieces", "I", false)
  | 6 => ("PaidFaces$Painter", "candidate", "[I", true)
  | 7 => ("PaidFaces$Painter", "worth", "[I", true)
  | _ => ("PaidFaces$Painter", "need", "[I", true)
def T_25 : u_T := fun k => match k with
  | 0 => ("PaidFaces$Parser", "reader", "LPaidFaces$Reader;", true)
  | 1 => ("PaidFaces$Parser", "book", "LPaidFaces$Book;", false)
  | 2 => ("PaidFaces$Parser", "waiting", "[LPaidFaces$Token;", true)
  | 3 => ("PaidFaces$Parser", "waitingCount", "I", false)
  | 4 => ("PaidFaces$Parser", "opens", "I", false)
  | 5 => ("PaidFaces$Parser", "knots", "I", false)
  | 6 => ("PaidFaces$Parser", "lines", "I", false)
  | 7 => ("PaidFaces$Parser", "faultKind", "I", false)
  | _ => ("PaidFaces$Parser", "faultPlace", "I", false)
def T_26 : u_T := fun k => match k with
  | 0 => ("PaidFaces$Past", "states", "[LPaidFaces$State;", true)
  | 1 => ("PaidFaces$Past", "first", "I", false)
  | _ => ("PaidFaces$Past", "size", "I", false)
def T_27 : u_T := fun k => match k with
  | 0 => ("PaidFaces$Reader", "tape", "[C", false)
  | 1 => ("PaidFaces$Reader", "length", "I", false)
  | 2 => ("PaidFaces$Reader", "next", "I", false)
  | 3 => ("PaidFaces$Reader", "token", "LPaidFaces$Token;", false)
  | 4 => ("PaidFaces$Reader", "place", "I", false)
  | 5 => ("PaidFaces$Reader", "number", "I", false)
  | _ => ("PaidFaces$Reader", "letters", "I", false)
def T_28 : u_T := fun k => match k with
  | 0 => ("PaidFaces$Seen", "kind", "[I", true)
  | 1 => ("PaidFaces$Seen", "about", "[I", true)
  | 2 => ("PaidFaces$Seen", "size", "I", false)
  | 3 => ("PaidFaces$Seen", "knownBy", "I", false)
  | 4 => ("PaidFaces$Seen", "wanted", "I", false)
  | _ => ("PaidFaces$Seen", "unwanted", "I", false)
def T_29 : u_T := fun k => match k with
  | 0 => ("PaidFaces$State", "book", "LPaidFaces$Book;", false)
  | 1 => ("PaidFaces$State", "day", "I", false)
  | 2 => ("PaidFaces$State", "painterCoin", "I", false)
  | 3 => ("PaidFaces$State", "deadOnes", "I", false)
  | 4 => ("PaidFaces$State", "lapsedOnes", "I", false)
  | 5 => ("PaidFaces$State", "forgedOnes", "I", false)
  | 6 => ("PaidFaces$State", "purse", "[I", true)
  | 7 => ("PaidFaces$State", "paid", "[I", true)
  | 8 => ("PaidFaces$State", "strokes", "[I", true)
  | 9 => ("PaidFaces$State", "owner", "[I", true)
  | 10 => ("PaidFaces$State", "changes", "I", false)
  | 11 => ("PaidFaces$State", "changedPiece", "[I", true)
  | 12 => ("PaidFaces$State", "changedOwner", "[I", true)
  | _ => ("PaidFaces$State", "names", "[I", true)
def T_30 : u_T := fun k => match k with
  | 0 => ("PaidFaces", "tape", "[C", true)
  | 1 => ("PaidFaces", "tapeLength", "I", false)
  | 2 => ("PaidFaces", "parser", "LPaidFaces$Parser;", true)
  | 3 => ("PaidFaces", "book", "LPaidFaces$Book;", false)
  | 4 => ("PaidFaces", "draft", "LPaidFaces$Book;", false)
  | 5 => ("PaidFaces", "now", "LPaidFaces$State;", true)
  | 6 => ("PaidFaces", "trial", "LPaidFaces$State;", true)
  | 7 => ("PaidFaces", "image", "LPaidFaces$State;", true)
  | 8 => ("PaidFaces", "hasImage", "Z", false)
  | 9 => ("PaidFaces", "past", "LPaidFaces$Past;", true)
  | 10 => ("PaidFaces", "painter", "LPaidFaces$Painter;", true)
  | 11 => ("PaidFaces", "diary", "[[I", true)
  | 12 => ("PaidFaces", "sale", "LPaidFaces$Auction;", true)
  | 13 => ("PaidFaces", "matching", "LPaidFaces$Matching;", true)
  | _ => ("PaidFaces", "seen", "LPaidFaces$Seen;", true)
def T_31 : u_T := fun k => match k with
  | 0 => ("PaidFacesModel", "thrown", "I", false)
  | 1 => ("PaidFacesModel", "tape", "[I", true)
  | 2 => ("PaidFacesModel", "taped", "I", false)
  | 3 => ("PaidFacesModel", "number", "[I", true)
  | 4 => ("PaidFacesModel", "featureName", "[I", true)
  | 5 => ("PaidFacesModel", "base", "[I", true)
  | 6 => ("PaidFacesModel", "strokes", "[I", true)
  | 7 => ("PaidFacesModel", "sitterName", "[I", true)
  | 8 => ("PaidFacesModel", "purseAs", "[I", true)
  | 9 => ("PaidFacesModel", "rate", "[I", true)
  | 10 => ("PaidFacesModel", "twin", "[I", true)
  | 11 => ("PaidFacesModel", "heir", "[I", true)
  | 12 => ("PaidFacesModel", "whose", "[I", true)
  | 13 => ("PaidFacesModel", "which", "[I", true)
  | 14 => ("PaidFacesModel", "tillDay", "[I", true)
  | 15 => ("PaidFacesModel", "kinA", "[I", true)
  | 16 => ("PaidFacesModel", "kinB", "[I", true)
  | 17 => ("PaidFacesModel", "kinFeature", "[I", true)
  | 18 => ("PaidFacesModel", "hailDay", "[I", true)
  | 19 => ("PaidFacesModel", "sumFrom", "[I", true)
  | 20 => ("PaidFacesModel", "sumTo", "[I", true)
  | 21 => ("PaidFacesModel", "knotSort", "[I", true)
  | 22 => ("PaidFacesModel", "knotValue", "[I", true)
  | 23 => ("PaidFacesModel", "told", "I", false)
  | 24 => ("PaidFacesModel", "lines", "I", false)
  | 25 => ("PaidFacesModel", "size", "I", false)
  | 26 => ("PaidFacesModel", "at", "I", false)
  | 27 => ("PaidFacesModel", "place", "I", false)
  | 28 => ("PaidFacesModel", "sort", "I", false)
  | 29 => ("PaidFacesModel", "value", "I", false)
  | 30 => ("PaidFacesModel", "fault", "I", false)
  | 31 => ("PaidFacesModel", "faultPlace", "I", false)
  | 32 => ("PaidFacesModel", "lastFault", "I", false)
  | 33 => ("PaidFacesModel", "lastPlace", "I", false)
  | 34 => ("PaidFacesModel", "open", "I", false)
  | 35 => ("PaidFacesModel", "counted", "I", false)
  | 36 => ("PaidFacesModel", "day", "[I", true)
  | 37 => ("PaidFacesModel", "painter", "[I", true)
  | 38 => ("PaidFacesModel", "dead", "[I", true)
  | 39 => ("PaidFacesModel", "lapsed", "[I", true)
  | 40 => ("PaidFacesModel", "forgedBy", "[I", true)
  | 41 => ("PaidFacesModel", "purse", "[I", true)
  | 42 => ("PaidFacesModel", "paid", "[I", true)
  | 43 => ("PaidFacesModel", "done", "[I", true)
  | 44 => ("PaidFacesModel", "owner", "[I", true)
  | 45 => ("PaidFacesModel", "changeMany", "[I", true)
  | 46 => ("PaidFacesModel", "changePiece", "[I", true)
  | 47 => ("PaidFacesModel", "changeOwner", "[I", true)
  | 48 => ("PaidFacesModel", "logPaid", "[I", true)
  | 49 => ("PaidFacesModel", "logPiece", "[I", true)
  | 50 => ("PaidFacesModel", "logLapsed", "[I", true)
  | 51 => ("PaidFacesModel", "hasImage", "Z", false)
  | 52 => ("PaidFacesModel", "undoMany", "I", false)
  | 53 => ("PaidFacesModel", "tryWhat", "I", false)
  | 54 => ("PaidFacesModel", "tryAt", "I", false)
  | 55 => ("PaidFacesModel", "names", "[J", true)
  | 56 => ("PaidFacesModel", "worked", "[J", true)
  | 57 => ("PaidFacesModel", "workedMany", "I", false)
  | 58 => ("PaidFacesModel", "galleryBest", "I", false)
  | 59 => ("PaidFacesModel", "galleryMost", "I", false)
  | 60 => ("PaidFacesModel", "galleryLeast", "I", false)
  | 61 => ("PaidFacesModel", "buyer", "I", false)
  | 62 => ("PaidFacesModel", "soldFor", "I", false)
  | 63 => ("PaidFacesModel", "round", "I", false)
  | 64 => ("PaidFacesModel", "adopts", "[I", true)
  | 65 => ("PaidFacesModel", "bestAdopts", "[I", true)
  | 66 => ("PaidFacesModel", "adoptMost", "I", false)
  | 67 => ("PaidFacesModel", "seen", "I", false)
  | 68 => ("PaidFacesModel", "knownBy", "I", false)
  | 69 => ("PaidFacesModel", "seenFeature", "[I", true)
  | 70 => ("PaidFacesModel", "seenIs", "[Z", true)
  | 71 => ("PaidFacesModel", "seenStrike", "[I", true)
  | _ => ("PaidFacesModel", "isStruck", "[Z", true)
abbrev CL : List vw_C := [("PaidFaces$Auction", T_20, 4), ("PaidFaces$Book", T_21, 20), ("PaidFaces$Law", T_22, 4), ("PaidFaces$Matching", T_23, 4), ("PaidFaces$Painter", T_24, 9), ("PaidFaces$Parser", T_25, 9), ("PaidFaces$Past", T_26, 3), ("PaidFaces$Reader", T_27, 7), ("PaidFaces$Seen", T_28, 6), ("PaidFaces$State", T_29, 14), ("PaidFaces", T_30, 15), ("PaidFacesModel", T_31, 73)]
def ty_20 : Nat → FieldType := fun k => match k with
  | 0 => (.array .int)
  | 1 => .int
  | 2 => .int
  | _ => .int
theorem tyd_20 : ∀ k, k < 4 → tyd (ty_20 k) (T_20 k).2.2.1 = true := by decide +kernel
theorem ok_20 : (∀ a, a < 4 → ∀ b, b < 4 → a ≠ b → (T_20 a).2.1 ≠ (T_20 b).2.1) ∧ (∀ k, k < 4 → parseFieldDescriptor (T_20 k).2.2.1 = some (ty_20 k)) ∧ (∀ k, k < 4 → (T_20 k).1 = "PaidFaces$Auction") := ⟨by decide +kernel, by decide +kernel, by decide +kernel⟩
set_option maxRecDepth 10000 in
theorem lay_20 : ∀ w ∈ u_ws "PaidFaces$Auction" T_20 4, w ∈ lw_tbl := by
  show ∀ w ∈ [u_lay "PaidFaces$Auction" T_20 0, u_lay "PaidFaces$Auction" T_20 1, u_lay "PaidFaces$Auction" T_20 2, u_lay "PaidFaces$Auction" T_20 3], w ∈ lw_tbl
  exact List.forall_mem_cons.mpr ⟨(tb_2 _ (List.mem_of_getElem? (i := 148) rfl)), List.forall_mem_cons.mpr ⟨(tb_2 _ (List.mem_of_getElem? (i := 150) rfl)), List.forall_mem_cons.mpr ⟨(tb_2 _ (List.mem_of_getElem? (i := 152) rfl)), List.forall_mem_cons.mpr ⟨(tb_2 _ (List.mem_of_getElem? (i := 154) rfl)), fun _ h => absurd h List.not_mem_nil⟩⟩⟩⟩
theorem ins_20 : Cond.instantiable "PaidFaces$Auction" 4 ∈ lw_tbl ∧ Cond.initialized "PaidFaces$Auction" ∈ lw_tbl := ⟨(tb_2 _ (List.mem_of_getElem? (i := 136) rfl)), (tb_1 _ (List.mem_of_getElem? (i := 11) rfl))⟩
def ty_21 : Nat → FieldType := fun k => match k with
  | 0 => .int
  | 1 => (.array .int)
  | 2 => (.array .int)
  | 3 => (.array .int)
  | 4 => .int
  | 5 => (.array .int)
  | 6 => (.array .int)
  | 7 => (.array .int)
  | 8 => .int
  | 9 => (.array .int)
  | 10 => (.array .int)
  | 11 => .int
  | 12 => (.array .int)
  | 13 => (.array .int)
  | 14 => (.array .int)
  | 15 => .int
  | 16 => (.array (.array .int))
  | 17 => .boolean
  | 18 => (.array .boolean)
  | _ => (.array (.object "PaidFaces$Law"))
theorem tyd_21 : ∀ k, k < 20 → tyd (ty_21 k) (T_21 k).2.2.1 = true := by decide +kernel
theorem ok_21 : (∀ a, a < 20 → ∀ b, b < 20 → a ≠ b → (T_21 a).2.1 ≠ (T_21 b).2.1) ∧ (∀ k, k < 20 → parseFieldDescriptor (T_21 k).2.2.1 = some (ty_21 k)) ∧ (∀ k, k < 20 → (T_21 k).1 = "PaidFaces$Book") := ⟨by decide +kernel, by decide +kernel, by decide +kernel⟩
set_option maxRecDepth 10000 in
theorem lay_21 : ∀ w ∈ u_ws "PaidFaces$Book" T_21 20, w ∈ lw_tbl := by
  show ∀ w ∈ [u_lay "PaidFaces$Book" T_21 0, u_lay "PaidFaces$Book" T_21 1, u_lay "PaidFaces$Book" T_21 2, u_lay "PaidFaces$Book" T_21 3, u_lay "PaidFaces$Book" T_21 4, u_lay "PaidFaces$Book" T_21 5, u_lay "PaidFaces$Book" T_21 6, u_lay "PaidFaces$Book" T_21 7, u_lay "PaidFaces$Book" T_21 8, u_lay "PaidFaces$Book" T_21 9, u_lay "PaidFaces$Book" T_21 10, u_lay "PaidFaces$Book" T_21 11, u_lay "PaidFaces$Book" T_21 12, u_lay "PaidFaces$Book" T_21 13, u_lay "PaidFaces$Book" T_21 14, u_lay "PaidFaces$Book" T_21 15, u_lay "PaidFaces$Book" T_21 16, u_lay "PaidFaces$Book" T_21 17, u_lay "PaidFaces$Book" T_21 18, u_lay "PaidFaces$Book" T_21 19], w ∈ lw_tbl
  exact List.forall_mem_cons.mpr ⟨(tb_1 _ (List.mem_of_getElem? (i := 171) rfl)), List.forall_mem_cons.mpr ⟨(tb_1 _ (List.mem_of_getElem? (i := 173) rfl)), List.forall_mem_cons.mpr ⟨(tb_1 _ (List.mem_of_getElem? (i := 175) rfl)), List.forall_mem_cons.mpr ⟨(tb_1 _ (List.mem_of_getElem? (i := 177) rfl)), List.forall_mem_cons.mpr ⟨(tb_1 _ (List.mem_of_getElem? (i := 179) rfl)), List.forall_mem_cons.mpr ⟨(tb_1 _ (List.mem_of_getElem? (i := 181) rfl)), List.forall_mem_cons.mpr ⟨(tb_1 _ (List.mem_of_getElem? (i := 183) rfl)), List.forall_mem_cons.mpr ⟨(tb_1 _ (List.mem_of_getElem? (i := 185) rfl)), List.forall_mem_cons.mpr ⟨(tb_1 _ (List.mem_of_getElem? (i := 187) rfl)), List.forall_mem_cons.mpr ⟨(tb_1 _ (List.mem_of_getElem? (i := 189) rfl)), List.forall_mem_cons.mpr ⟨(tb_1 _ (List.mem_of_getElem? (i := 191) rfl)), List.forall_mem_cons.mpr ⟨(tb_1 _ (List.mem_of_getElem? (i := 193) rfl)), List.forall_mem_cons.mpr ⟨(tb_1 _ (List.mem_of_getElem? (i := 195) rfl)), List.forall_mem_cons.mpr ⟨(tb_1 _ (List.mem_of_getElem? (i := 197) rfl)), List.forall_mem_cons.mpr ⟨(tb_1 _ (List.mem_of_getElem? (i := 199) rfl)), List.forall_mem_cons.mpr ⟨(tb_1 _ (List.mem_of_getElem? (i := 201) rfl)), List.forall_mem_cons.mpr ⟨(tb_1 _ (List.mem_of_getElem? (i := 203) rfl)), List.forall_mem_cons.mpr ⟨(tb_1 _ (List.mem_of_getElem? (i := 205) rfl)), List.forall_mem_cons.mpr ⟨(tb_1 _ (List.mem_of_getElem? (i := 207) rfl)), List.forall_mem_cons.mpr ⟨(tb_1 _ (List.mem_of_getElem? (i := 209) rfl)), fun _ h => absurd h List.not_mem_nil⟩⟩⟩⟩⟩⟩⟩⟩⟩⟩⟩⟩⟩⟩⟩⟩⟩⟩⟩⟩
theorem ins_21 : Cond.instantiable "PaidFaces$Book" 20 ∈ lw_tbl ∧ Cond.initialized "PaidFaces$Book" ∈ lw_tbl := ⟨(tb_1 _ (List.mem_of_getElem? (i := 77) rfl)), (tb_1 _ (List.mem_of_getElem? (i := 6) rfl))⟩
def ty_22 : Nat → FieldType := fun k => match k with
  | 0 => (.array (.object "PaidFaces$Token"))
  | 1 => (.array .int)
  | 2 => (.array .long)
  | _ => .int
theorem tyd_22 : ∀ k, k < 4 → tyd (ty_22 k) (T_22 k).2.2.1 = true := by decide +kernel
theorem ok_22 : (∀ a, a < 4 → ∀ b, b < 4 → a ≠ b → (T_22 a).2.1 ≠ (T_22 b).2.1) ∧ (∀ k, k < 4 → parseFieldDescriptor (T_22 k).2.2.1 = some (ty_22 k)) ∧ (∀ k, k < 4 → (T_22 k).1 = "PaidFaces$Law") := ⟨by decide +kernel, by decide +kernel, by decide +kernel⟩
set_option maxRecDepth 10000 in
theorem lay_22 : ∀ w ∈ u_ws "PaidFaces$Law" T_22 4, w ∈ lw_tbl := by
  show ∀ w ∈ [u_lay "PaidFaces$Law" T_22 0, u_lay "PaidFaces$Law" T_22 1, u_lay "PaidFaces$Law" T_22 2, u_lay "PaidFaces$Law" T_22 3], w ∈ lw_tbl
  exact List.forall_mem_cons.mpr ⟨(tb_1 _ (List.mem_of_getElem? (i := 100) rfl)), List.forall_mem_cons.mpr ⟨(tb_1 _ (List.mem_of_getElem? (i := 102) rfl)), List.forall_mem_cons.mpr ⟨(tb_1 _ (List.mem_of_getElem? (i := 104) rfl)), List.forall_mem_cons.mpr ⟨(tb_1 _ (List.mem_of_getElem? (i := 106) rfl)), fun _ h => absurd h List.not_mem_nil⟩⟩⟩⟩
theorem ins_22 : Cond.instantiable "PaidFaces$Law" 4 ∈ lw_tbl ∧ Cond.initialized "PaidFaces$Law" ∈ lw_tbl := ⟨(tb_1 _ (List.mem_of_getElem? (i := 86) rfl)), (tb_1 _ (List.mem_of_getElem? (i := 7) rfl))⟩
def ty_23 : Nat → FieldType := fun k => match k with
  | 0 => (.array .int)
  | 1 => (.array (.array .int))
  | 2 => (.array .int)
  | _ => .int
theorem tyd_23 : ∀ k, k < 4 → tyd (ty_23 k) (T_23 k).2.2.1 = true := by decide +kernel
theorem ok_23 : (∀ a, a < 4 → ∀ b, b < 4 → a ≠ b → (T_23 a).2.1 ≠ (T_23 b).2.1) ∧ (∀ k, k < 4 → parseFieldDescriptor (T_23 k).2.2.1 = some (ty_23 k)) ∧ (∀ k, k < 4 → (T_23 k).1 = "PaidFaces$Matching") := ⟨by decide +kernel, by decide +kernel, by decide +kernel⟩
set_option maxRecDepth 10000 in
theorem lay_23 : ∀ w ∈ u_ws "PaidFaces$Matching" T_23 4, w ∈ lw_tbl := by
  show ∀ w ∈ [u_lay "PaidFaces$Matching" T_23 0, u_lay "PaidFaces$Matching" T_23 1, u_lay "PaidFaces$Matching" T_23 2, u_lay "PaidFaces$Matching" T_23 3], w ∈ lw_tbl
  exact List.forall_mem_cons.mpr ⟨(tb_2 _ (List.mem_of_getElem? (i := 170) rfl)), List.forall_mem_cons.mpr ⟨(tb_2 _ (List.mem_of_getElem? (i := 172) rfl)), List.forall_mem_cons.mpr ⟨(tb_2 _ (List.mem_of_getElem? (i := 174) rfl)), List.forall_mem_cons.mpr ⟨(tb_2 _ (List.mem_of_getElem? (i := 176) rfl)), fun _ h => absurd h List.not_mem_nil⟩⟩⟩⟩
theorem ins_23 : Cond.instantiable "PaidFaces$Matching" 4 ∈ lw_tbl ∧ Cond.initialized "PaidFaces$Matching" ∈ lw_tbl := ⟨(tb_2 _ (List.mem_of_getElem? (i := 158) rfl)), (tb_1 _ (List.mem_of_getElem? (i := 12) rfl))⟩
def ty_24 : Nat → FieldType := fun k => match k with
  | 0 => .int
  | 1 => .int
  | 2 => .int
  | 3 => .int
  | 4 => .int
  | 5 => .int
  | 6 => (.array .int)
  | 7 => (.array .int)
  | _ => (.array .int)
theorem tyd_24 : ∀ k, k < 9 → tyd (ty_24 k) (T_24 k).2.2.1 = true := by decide +kernel
theorem ok_24 : (∀ a, a < 9 → ∀ b, b < 9 → a ≠ b → (T_24 a).2.1 ≠ (T_24 b).2.1) ∧ (∀ k, k < 9 → parseFieldDescriptor (T_24 k).2.2.1 = some (ty_24 k)) ∧ (∀ k, k < 9 → (T_24 k).1 = "PaidFaces$Painter") := ⟨by decide +kernel, by decide +kernel, by decide +kernel⟩
set_option maxRecDepth 10000 in
theorem lay_24 : ∀ w ∈ u_ws "PaidFaces$Painter" T_24 9, w ∈ lw_tbl := by
  show ∀ w ∈ [u_lay "PaidFaces$Painter" T_24 0, u_lay "PaidFaces$Painter" T_24 1, u_lay "PaidFaces$Painter" T_24 2, u_lay "PaidFaces$Painter" T_24 3, u_lay "PaidFaces$Painter" T_24 4, u_lay "PaidFaces$Painter" T_24 5, u_lay "PaidFaces$Painter" T_24 6, u_lay "PaidFaces$Painter" T_24 7, u_lay "PaidFaces$Painter" T_24 8], w ∈ lw_tbl
  exact List.forall_mem_cons.mpr ⟨(tb_2 _ (List.mem_of_getElem? (i := 115) rfl)), List.forall_mem_cons.mpr ⟨(tb_2 _ (List.mem_of_getElem? (i := 117) rfl)), List.forall_mem_cons.mpr ⟨(tb_2 _ (List.mem_of_getElem? (i := 119) rfl)), List.forall_mem_cons.mpr ⟨(tb_2 _ (List.mem_of_getElem? (i := 121) rfl)), List.forall_mem_cons.mpr ⟨(tb_2 _ (List.mem_of_getElem? (i := 123) rfl)), List.forall_mem_cons.mpr ⟨(tb_2 _ (List.mem_of_getElem? (i := 125) rfl)), List.forall_mem_cons.mpr ⟨(tb_2 _ (List.mem_of_getElem? (i := 127) rfl)), List.forall_mem_cons.mpr ⟨(tb_2 _ (List.mem_of_getElem? (i := 129) rfl)), List.forall_mem_cons.mpr ⟨(tb_2 _ (List.mem_of_getElem? (i := 131) rfl)), fun _ h => absurd h List.not_mem_nil⟩⟩⟩⟩⟩⟩⟩⟩⟩
theorem ins_24 : Cond.instantiable "PaidFaces$Painter" 9 ∈ lw_tbl ∧ Cond.initialized "PaidFaces$Painter" ∈ lw_tbl := ⟨(tb_2 _ (List.mem_of_getElem? (i := 95) rfl)), (tb_1 _ (List.mem_of_getElem? (i := 10) rfl))⟩
def ty_25 : Nat → FieldType := fun k => match k with
  | 0 => (.object "PaidFaces$Reader")
  | 1 => (.object "PaidFaces$Book")
  | 2 => (.array (.object "PaidFaces$Token"))
  | 3 => .int
  | 4 => .int
  | 5 => .int
  | 6 => .int
  | 7 => .int
  | _ => .int
theorem tyd_25 : ∀ k, k < 9 → tyd (ty_25 k) (T_25 k).2.2.1 = true := by decide +kernel
theorem ok_25 : (∀ a, a < 9 → ∀ b, b < 9 → a ≠ b → (T_25 a).2.1 ≠ (T_25 b).2.1) ∧ (∀ k, k < 9 → parseFieldDescriptor (T_25 k).2.2.1 = some (ty_25 k)) ∧ (∀ k, k < 9 → (T_25 k).1 = "PaidFaces$Parser") := ⟨by decide +kernel, by decide +kernel, by decide +kernel⟩
set_option maxRecDepth 10000 in
theorem lay_25 : ∀ w ∈ u_ws "PaidFaces$Parser" T_25 9, w ∈ lw_tbl := by
  show ∀ w ∈ [u_lay "PaidFaces$Parser" T_25 0, u_lay "PaidFaces$Parser" T_25 1, u_lay "PaidFaces$Parser" T_25 2, u_lay "PaidFaces$Parser" T_25 3, u_lay "PaidFaces$Parser" T_25 4, u_lay "PaidFaces$Parser" T_25 5, u_lay "PaidFaces$Parser" T_25 6, u_lay "PaidFaces$Parser" T_25 7, u_lay "PaidFaces$Parser" T_25 8], w ∈ lw_tbl
  exact List.forall_mem_cons.mpr ⟨(tb_1 _ (List.mem_of_getElem? (i := 225) rfl)), List.forall_mem_cons.mpr ⟨(tb_1 _ (List.mem_of_getElem? (i := 227) rfl)), List.forall_mem_cons.mpr ⟨(tb_1 _ (List.mem_of_getElem? (i := 229) rfl)), List.forall_mem_cons.mpr ⟨(tb_1 _ (List.mem_of_getElem? (i := 231) rfl)), List.forall_mem_cons.mpr ⟨(tb_1 _ (List.mem_of_getElem? (i := 233) rfl)), List.forall_mem_cons.mpr ⟨(tb_1 _ (List.mem_of_getElem? (i := 235) rfl)), List.forall_mem_cons.mpr ⟨(tb_1 _ (List.mem_of_getElem? (i := 237) rfl)), List.forall_mem_cons.mpr ⟨(tb_1 _ (List.mem_of_getElem? (i := 239) rfl)), List.forall_mem_cons.mpr ⟨(tb_2 _ (List.mem_of_getElem? (i := 1) rfl)), fun _ h => absurd h List.not_mem_nil⟩⟩⟩⟩⟩⟩⟩⟩⟩
theorem ins_25 : Cond.instantiable "PaidFaces$Parser" 9 ∈ lw_tbl ∧ Cond.initialized "PaidFaces$Parser" ∈ lw_tbl := ⟨(tb_1 _ (List.mem_of_getElem? (i := 36) rfl)), (tb_1 _ (List.mem_of_getElem? (i := 2) rfl))⟩
def ty_26 : Nat → FieldType := fun k => match k with
  | 0 => (.array (.object "PaidFaces$State"))
  | 1 => .int
  | _ => .int
theorem tyd_26 : ∀ k, k < 3 → tyd (ty_26 k) (T_26 k).2.2.1 = true := by decide +kernel
theorem ok_26 : (∀ a, a < 3 → ∀ b, b < 3 → a ≠ b → (T_26 a).2.1 ≠ (T_26 b).2.1) ∧ (∀ k, k < 3 → parseFieldDescriptor (T_26 k).2.2.1 = some (ty_26 k)) ∧ (∀ k, k < 3 → (T_26 k).1 = "PaidFaces$Past") := ⟨by decide +kernel, by decide +kernel, by decide +kernel⟩
set_option maxRecDepth 10000 in
theorem lay_26 : ∀ w ∈ u_ws "PaidFaces$Past" T_26 3, w ∈ lw_tbl := by
  show ∀ w ∈ [u_lay "PaidFaces$Past" T_26 0, u_lay "PaidFaces$Past" T_26 1, u_lay "PaidFaces$Past" T_26 2], w ∈ lw_tbl
  exact List.forall_mem_cons.mpr ⟨(tb_2 _ (List.mem_of_getElem? (i := 87) rfl)), List.forall_mem_cons.mpr ⟨(tb_2 _ (List.mem_of_getElem? (i := 89) rfl)), List.forall_mem_cons.mpr ⟨(tb_2 _ (List.mem_of_getElem? (i := 91) rfl)), fun _ h => absurd h List.not_mem_nil⟩⟩⟩
theorem ins_26 : Cond.instantiable "PaidFaces$Past" 3 ∈ lw_tbl ∧ Cond.initialized "PaidFaces$Past" ∈ lw_tbl := ⟨(tb_2 _ (List.mem_of_getElem? (i := 75) rfl)), (tb_1 _ (List.mem_of_getElem? (i := 9) rfl))⟩
def ty_27 : Nat → FieldType := fun k => match k with
  | 0 => (.array .char)
  | 1 => .int
  | 2 => .int
  | 3 => (.object "PaidFaces$Token")
  | 4 => .int
  | 5 => .int
  | _ => .int
theorem tyd_27 : ∀ k, k < 7 → tyd (ty_27 k) (T_27 k).2.2.1 = true := by decide +kernel
theorem ok_27 : (∀ a, a < 7 → ∀ b, b < 7 → a ≠ b → (T_27 a).2.1 ≠ (T_27 b).2.1) ∧ (∀ k, k < 7 → parseFieldDescriptor (T_27 k).2.2.1 = some (ty_27 k)) ∧ (∀ k, k < 7 → (T_27 k).1 = "PaidFaces$Reader") := ⟨by decide +kernel, by decide +kernel, by decide +kernel⟩
set_option maxRecDepth 10000 in
theorem lay_27 : ∀ w ∈ u_ws "PaidFaces$Reader" T_27 7, w ∈ lw_tbl := by
  show ∀ w ∈ [u_lay "PaidFaces$Reader" T_27 0, u_lay "PaidFaces$Reader" T_27 1, u_lay "PaidFaces$Reader" T_27 2, u_lay "PaidFaces$Reader" T_27 3, u_lay "PaidFaces$Reader" T_27 4, u_lay "PaidFaces$Reader" T_27 5, u_lay "PaidFaces$Reader" T_27 6], w ∈ lw_tbl
  exact List.forall_mem_cons.mpr ⟨(tb_1 _ (List.mem_of_getElem? (i := 60) rfl)), List.forall_mem_cons.mpr ⟨(tb_1 _ (List.mem_of_getElem? (i := 62) rfl)), List.forall_mem_cons.mpr ⟨(tb_1 _ (List.mem_of_getElem? (i := 64) rfl)), List.forall_mem_cons.mpr ⟨(tb_1 _ (List.mem_of_getElem? (i := 66) rfl)), List.forall_mem_cons.mpr ⟨(tb_1 _ (List.mem_of_getElem? (i := 68) rfl)), List.forall_mem_cons.mpr ⟨(tb_1 _ (List.mem_of_getElem? (i := 70) rfl)), List.forall_mem_cons.mpr ⟨(tb_1 _ (List.mem_of_getElem? (i := 72) rfl)), fun _ h => absurd h List.not_mem_nil⟩⟩⟩⟩⟩⟩⟩
theorem ins_27 : Cond.instantiable "PaidFaces$Reader" 7 ∈ lw_tbl ∧ Cond.initialized "PaidFaces$Reader" ∈ lw_tbl := ⟨(tb_1 _ (List.mem_of_getElem? (i := 42) rfl)), (tb_1 _ (List.mem_of_getElem? (i := 3) rfl))⟩
def ty_28 : Nat → FieldType := fun k => match k with
  | 0 => (.array .int)
  | 1 => (.array .int)
  | 2 => .int
  | 3 => .int
  | 4 => .int
  | _ => .int
theorem tyd_28 : ∀ k, k < 6 → tyd (ty_28 k) (T_28 k).2.2.1 = true := by decide +kernel
theorem ok_28 : (∀ a, a < 6 → ∀ b, b < 6 → a ≠ b → (T_28 a).2.1 ≠ (T_28 b).2.1) ∧ (∀ k, k < 6 → parseFieldDescriptor (T_28 k).2.2.1 = some (ty_28 k)) ∧ (∀ k, k < 6 → (T_28 k).1 = "PaidFaces$Seen") := ⟨by decide +kernel, by decide +kernel, by decide +kernel⟩
set_option maxRecDepth 10000 in
theorem lay_28 : ∀ w ∈ u_ws "PaidFaces$Seen" T_28 6, w ∈ lw_tbl := by
  show ∀ w ∈ [u_lay "PaidFaces$Seen" T_28 0, u_lay "PaidFaces$Seen" T_28 1, u_lay "PaidFaces$Seen" T_28 2, u_lay "PaidFaces$Seen" T_28 3, u_lay "PaidFaces$Seen" T_28 4, u_lay "PaidFaces$Seen" T_28 5], w ∈ lw_tbl
  exact List.forall_mem_cons.mpr ⟨(tb_2 _ (List.mem_of_getElem? (i := 193) rfl)), List.forall_mem_cons.mpr ⟨(tb_2 _ (List.mem_of_getElem? (i := 195) rfl)), List.forall_mem_cons.mpr ⟨(tb_2 _ (List.mem_of_getElem? (i := 197) rfl)), List.forall_mem_cons.mpr ⟨(tb_2 _ (List.mem_of_getElem? (i := 199) rfl)), List.forall_mem_cons.mpr ⟨(tb_2 _ (List.mem_of_getElem? (i := 201) rfl)), List.forall_mem_cons.mpr ⟨(tb_2 _ (List.mem_of_getElem? (i := 203) rfl)), fun _ h => absurd h List.not_mem_nil⟩⟩⟩⟩⟩⟩
theorem ins_28 : Cond.instantiable "PaidFaces$Seen" 6 ∈ lw_tbl ∧ Cond.initialized "PaidFaces$Seen" ∈ lw_tbl := ⟨(tb_2 _ (List.mem_of_getElem? (i := 180) rfl)), (tb_1 _ (List.mem_of_getElem? (i := 13) rfl))⟩
def ty_29 : Nat → FieldType := fun k => match k with
  | 0 => (.object "PaidFaces$Book")
  | 1 => .int
  | 2 => .int
  | 3 => .int
  | 4 => .int
  | 5 => .int
  | 6 => (.array .int)
  | 7 => (.array .int)
  | 8 => (.array .int)
  | 9 => (.array .int)
  | 10 => .int
  | 11 => (.array .int)
  | 12 => (.array .int)
  | _ => (.array .int)
theorem tyd_29 : ∀ k, k < 14 → tyd (ty_29 k) (T_29 k).2.2.1 = true := by decide +kernel
theorem ok_29 : (∀ a, a < 14 → ∀ b, b < 14 → a ≠ b → (T_29 a).2.1 ≠ (T_29 b).2.1) ∧ (∀ k, k < 14 → parseFieldDescriptor (T_29 k).2.2.1 = some (ty_29 k)) ∧ (∀ k, k < 14 → (T_29 k).1 = "PaidFaces$State") := ⟨by decide +kernel, by decide +kernel, by decide +kernel⟩
set_option maxRecDepth 10000 in
theorem lay_29 : ∀ w ∈ u_ws "PaidFaces$State" T_29 14, w ∈ lw_tbl := by
  show ∀ w ∈ [u_lay "PaidFaces$State" T_29 0, u_lay "PaidFaces$State" T_29 1, u_lay "PaidFaces$State" T_29 2, u_lay "PaidFaces$State" T_29 3, u_lay "PaidFaces$State" T_29 4, u_lay "PaidFaces$State" T_29 5, u_lay "PaidFaces$State" T_29 6, u_lay "PaidFaces$State" T_29 7, u_lay "PaidFaces$State" T_29 8, u_lay "PaidFaces$State" T_29 9, u_lay "PaidFaces$State" T_29 10, u_lay "PaidFaces$State" T_29 11, u_lay "PaidFaces$State" T_29 12, u_lay "PaidFaces$State" T_29 13], w ∈ lw_tbl
  exact List.forall_mem_cons.mpr ⟨(tb_2 _ (List.mem_of_getElem? (i := 45) rfl)), List.forall_mem_cons.mpr ⟨(tb_2 _ (List.mem_of_getElem? (i := 47) rfl)), List.forall_mem_cons.mpr ⟨(tb_2 _ (List.mem_of_getElem? (i := 49) rfl)), List.forall_mem_cons.mpr ⟨(tb_2 _ (List.mem_of_getElem? (i := 51) rfl)), List.forall_mem_cons.mpr ⟨(tb_2 _ (List.mem_of_getElem? (i := 53) rfl)), List.forall_mem_cons.mpr ⟨(tb_2 _ (List.mem_of_getElem? (i := 55) rfl)), List.forall_mem_cons.mpr ⟨(tb_2 _ (List.mem_of_getElem? (i := 57) rfl)), List.forall_mem_cons.mpr ⟨(tb_2 _ (List.mem_of_getElem? (i := 59) rfl)), List.forall_mem_cons.mpr ⟨(tb_2 _ (List.mem_of_getElem? (i := 61) rfl)), List.forall_mem_cons.mpr ⟨(tb_2 _ (List.mem_of_getElem? (i := 63) rfl)), List.forall_mem_cons.mpr ⟨(tb_2 _ (List.mem_of_getElem? (i := 65) rfl)), List.forall_mem_cons.mpr ⟨(tb_2 _ (List.mem_of_getElem? (i := 67) rfl)), List.forall_mem_cons.mpr ⟨(tb_2 _ (List.mem_of_getElem? (i := 69) rfl)), List.forall_mem_cons.mpr ⟨(tb_2 _ (List.mem_of_getElem? (i := 71) rfl)), fun _ h => absurd h List.not_mem_nil⟩⟩⟩⟩⟩⟩⟩⟩⟩⟩⟩⟩⟩⟩
theorem ins_29 : Cond.instantiable "PaidFaces$State" 14 ∈ lw_tbl ∧ Cond.initialized "PaidFaces$State" ∈ lw_tbl := ⟨(tb_2 _ (List.mem_of_getElem? (i := 7) rfl)), (tb_1 _ (List.mem_of_getElem? (i := 8) rfl))⟩
def ty_30 : Nat → FieldType := fun k => match k with
  | 0 => (.array .char)
  | 1 => .int
  | 2 => (.object "PaidFaces$Parser")
  | 3 => (.object "PaidFaces$Book")
  | 4 => (.object "PaidFaces$Book")
  | 5 => (.object "PaidFaces$State")
  | 6 => (.object "PaidFaces$State")
  | 7 => (.object "PaidFaces$State")
  | 8 => .boolean
  | 9 => (.object "PaidFaces$Past")
  | 10 => (.object "PaidFaces$Painter")
  | 11 => (.array (.array .int))
  | 12 => (.object "PaidFaces$Auction")
  | 13 => (.object "PaidFaces$Matching")
  | _ => (.object "PaidFaces$Seen")
theorem tyd_30 : ∀ k, k < 15 → tyd (ty_30 k) (T_30 k).2.2.1 = true := by decide +kernel
theorem ok_30 : (∀ a, a < 15 → ∀ b, b < 15 → a ≠ b → (T_30 a).2.1 ≠ (T_30 b).2.1) ∧ (∀ k, k < 15 → parseFieldDescriptor (T_30 k).2.2.1 = some (ty_30 k)) ∧ (∀ k, k < 15 → (T_30 k).1 = "PaidFaces") := ⟨by decide +kernel, by decide +kernel, by decide +kernel⟩
set_option maxRecDepth 10000 in
theorem lay_30 : ∀ w ∈ u_ws "PaidFaces" T_30 15, w ∈ lw_tbl := by
  show ∀ w ∈ [u_lay "PaidFaces" T_30 0, u_lay "PaidFaces" T_30 1, u_lay "PaidFaces" T_30 2, u_lay "PaidFaces" T_30 3, u_lay "PaidFaces" T_30 4, u_lay "PaidFaces" T_30 5, u_lay "PaidFaces" T_30 6, u_lay "PaidFaces" T_30 7, u_lay "PaidFaces" T_30 8, u_lay "PaidFaces" T_30 9, u_lay "PaidFaces" T_30 10, u_lay "PaidFaces" T_30 11, u_lay "PaidFaces" T_30 12, u_lay "PaidFaces" T_30 13, u_lay "PaidFaces" T_30 14], w ∈ lw_tbl
  exact List.forall_mem_cons.mpr ⟨(tb_2 _ (List.mem_of_getElem? (i := 221) rfl)), List.forall_mem_cons.mpr ⟨(tb_2 _ (List.mem_of_getElem? (i := 223) rfl)), List.forall_mem_cons.mpr ⟨(tb_2 _ (List.mem_of_getElem? (i := 225) rfl)), List.forall_mem_cons.mpr ⟨(tb_2 _ (List.mem_of_getElem? (i := 227) rfl)), List.forall_mem_cons.mpr ⟨(tb_2 _ (List.mem_of_getElem? (i := 229) rfl)), List.forall_mem_cons.mpr ⟨(tb_2 _ (List.mem_of_getElem? (i := 231) rfl)), List.forall_mem_cons.mpr ⟨(tb_2 _ (List.mem_of_getElem? (i := 233) rfl)), List.forall_mem_cons.mpr ⟨(tb_2 _ (List.mem_of_getElem? (i := 235) rfl)), List.forall_mem_cons.mpr ⟨(tb_2 _ (List.mem_of_getElem? (i := 237) rfl)), List.forall_mem_cons.mpr ⟨(tb_2 _ (List.mem_of_getElem? (i := 239) rfl)), List.forall_mem_cons.mpr ⟨(tb_3 _ (List.mem_of_getElem? (i := 1) rfl)), List.forall_mem_cons.mpr ⟨(tb_3 _ (List.mem_of_getElem? (i := 3) rfl)), List.forall_mem_cons.mpr ⟨(tb_3 _ (List.mem_of_getElem? (i := 5) rfl)), List.forall_mem_cons.mpr ⟨(tb_3 _ (List.mem_of_getElem? (i := 7) rfl)), List.forall_mem_cons.mpr ⟨(tb_3 _ (List.mem_of_getElem? (i := 9) rfl)), fun _ h => absurd h List.not_mem_nil⟩⟩⟩⟩⟩⟩⟩⟩⟩⟩⟩⟩⟩⟩⟩
theorem ins_30 : Cond.instantiable "PaidFaces" 15 ∈ lw_tbl ∧ Cond.initialized "PaidFaces" ∈ lw_tbl := ⟨(tb_1 _ (List.mem_of_getElem? (i := 28) rfl)), (tb_1 _ (List.mem_of_getElem? (i := 1) rfl))⟩
def ty_31 : Nat → FieldType := fun k => match k with
  | 0 => .int
  | 1 => (.array .int)
  | 2 => .int
  | 3 => (.array .int)
  | 4 => (.array .int)
  | 5 => (.array .int)
  | 6 => (.array .int)
  | 7 => (.array .int)
  | 8 => (.array .int)
  | 9 => (.array .int)
  | 10 => (.array .int)
  | 11 => (.array .int)
  | 12 => (.array .int)
  | 13 => (.array .int)
  | 14 => (.array .int)
  | 15 => (.array .int)
  | 16 => (.array .int)
  | 17 => (.array .int)
  | 18 => (.array .int)
  | 19 => (.array .int)
  | 20 => (.array .int)
  | 21 => (.array .int)
  | 22 => (.array .int)
  | 23 => .int
  | 24 => .int
  | 25 => .int
  | 26 => .int
  | 27 => .int
  | 28 => .int
  | 29 => .int
  | 30 => .int
  | 31 => .int
  | 32 => .int
  | 33 => .int
  | 34 => .int
  | 35 => .int
  | 36 => (.array .int)
  | 37 => (.array .int)
  | 38 => (.array .int)
  | 39 => (.array .int)
  | 40 => (.array .int)
  | 41 => (.array .int)
  | 42 => (.array .int)
  | 43 => (.array .int)
  | 44 => (.array .int)
  | 45 => (.array .int)
  | 46 => (.array .int)
  | 47 => (.array .int)
  | 48 => (.array .int)
  | 49 => (.array .int)
  | 50 => (.array .int)
  | 51 => .boolean
  | 52 => .int
  | 53 => .int
  | 54 => .int
  | 55 => (.array .long)
  | 56 => (.array .long)
  | 57 => .int
  | 58 => .int
  | 59 => .int
  | 60 => .int
  | 61 => .int
  | 62 => .int
  | 63 => .int
  | 64 => (.array .int)
  | 65 => (.array .int)
  | 66 => .int
  | 67 => .int
  | 68 => .int
  | 69 => (.array .int)
  | 70 => (.array .boolean)
  | 71 => (.array .int)
  | _ => (.array .boolean)
theorem tyd_31 : ∀ k, k < 73 → tyd (ty_31 k) (T_31 k).2.2.1 = true := by decide +kernel
theorem ok_31 : (∀ a, a < 73 → ∀ b, b < 73 → a ≠ b → (T_31 a).2.1 ≠ (T_31 b).2.1) ∧ (∀ k, k < 73 → parseFieldDescriptor (T_31 k).2.2.1 = some (ty_31 k)) ∧ (∀ k, k < 73 → (T_31 k).1 = "PaidFacesModel") := ⟨by decide +kernel, by decide +kernel, by decide +kernel⟩
set_option maxRecDepth 10000 in
theorem lay_31 : ∀ w ∈ u_ws "PaidFacesModel" T_31 73, w ∈ lw_tbl := by
  show ∀ w ∈ [u_lay "PaidFacesModel" T_31 0, u_lay "PaidFacesModel" T_31 1, u_lay "PaidFacesModel" T_31 2, u_lay "PaidFacesModel" T_31 3, u_lay "PaidFacesModel" T_31 4, u_lay "PaidFacesModel" T_31 5, u_lay "PaidFacesModel" T_31 6, u_lay "PaidFacesModel" T_31 7, u_lay "PaidFacesModel" T_31 8, u_lay "PaidFacesModel" T_31 9, u_lay "PaidFacesModel" T_31 10, u_lay "PaidFacesModel" T_31 11, u_lay "PaidFacesModel" T_31 12, u_lay "PaidFacesModel" T_31 13, u_lay "PaidFacesModel" T_31 14, u_lay "PaidFacesModel" T_31 15, u_lay "PaidFacesModel" T_31 16, u_lay "PaidFacesModel" T_31 17, u_lay "PaidFacesModel" T_31 18, u_lay "PaidFacesModel" T_31 19, u_lay "PaidFacesModel" T_31 20, u_lay "PaidFacesModel" T_31 21, u_lay "PaidFacesModel" T_31 22, u_lay "PaidFacesModel" T_31 23, u_lay "PaidFacesModel" T_31 24, u_lay "PaidFacesModel" T_31 25, u_lay "PaidFacesModel" T_31 26, u_lay "PaidFacesModel" T_31 27, u_lay "PaidFacesModel" T_31 28, u_lay "PaidFacesModel" T_31 29, u_lay "PaidFacesModel" T_31 30, u_lay "PaidFacesModel" T_31 31, u_lay "PaidFacesModel" T_31 32, u_lay "PaidFacesModel" T_31 33, u_lay "PaidFacesModel" T_31 34, u_lay "PaidFacesModel" T_31 35, u_lay "PaidFacesModel" T_31 36, u_lay "PaidFacesModel" T_31 37, u_lay "PaidFacesModel" T_31 38, u_lay "PaidFacesModel" T_31 39, u_lay "PaidFacesModel" T_31 40, u_lay "PaidFacesModel" T_31 41, u_lay "PaidFacesModel" T_31 42, u_lay "PaidFacesModel" T_31 43, u_lay "PaidFacesModel" T_31 44, u_lay "PaidFacesModel" T_31 45, u_lay "PaidFacesModel" T_31 46, u_lay "PaidFacesModel" T_31 47, u_lay "PaidFacesModel" T_31 48, u_lay "PaidFacesModel" T_31 49, u_lay "PaidFacesModel" T_31 50, u_lay "PaidFacesModel" T_31 51, u_lay "PaidFacesModel" T_31 52, u_lay "PaidFacesModel" T_31 53, u_lay "PaidFacesModel" T_31 54, u_lay "PaidFacesModel" T_31 55, u_lay "PaidFacesModel" T_31 56, u_lay "PaidFacesModel" T_31 57, u_lay "PaidFacesModel" T_31 58, u_lay "PaidFacesModel" T_31 59, u_lay "PaidFacesModel" T_31 60, u_lay "PaidFacesModel" T_31 61, u_lay "PaidFacesModel" T_31 62, u_lay "PaidFacesModel" T_31 63, u_lay "PaidFacesModel" T_31 64, u_lay "PaidFacesModel" T_31 65, u_lay "PaidFacesModel" T_31 66, u_lay "PaidFacesModel" T_31 67, u_lay "PaidFacesModel" T_31 68, u_lay "PaidFacesModel" T_31 69, u_lay "PaidFacesModel" T_31 70, u_lay "PaidFacesModel" T_31 71, u_lay "PaidFacesModel" T_31 72], w ∈ lw_tbl
  exact List.forall_mem_cons.mpr ⟨(tb_6 _ (List.mem_of_getElem? (i := 113) rfl)), List.forall_mem_cons.mpr ⟨(tb_6 _ (List.mem_of_getElem? (i := 115) rfl)), List.forall_mem_cons.mpr ⟨(tb_6 _ (List.mem_of_getElem? (i := 117) rfl)), List.forall_mem_cons.mpr ⟨(tb_6 _ (List.mem_of_getElem? (i := 119) rfl)), List.forall_mem_cons.mpr ⟨(tb_6 _ (List.mem_of_getElem? (i := 121) rfl)), List.forall_mem_cons.mpr ⟨(tb_6 _ (List.mem_of_getElem? (i := 123) rfl)), List.forall_mem_cons.mpr ⟨(tb_6 _ (List.mem_of_getElem? (i := 125) rfl)), List.forall_mem_cons.mpr ⟨(tb_6 _ (List.mem_of_getElem? (i := 127) rfl)), List.forall_mem_cons.mpr ⟨(tb_6 _ (List.mem_of_getElem? (i := 129) rfl)), List.forall_mem_cons.mpr ⟨(tb_6 _ (List.mem_of_getElem? (i := 131) rfl)), List.forall_mem_cons.mpr ⟨(tb_6 _ (List.mem_of_getElem? (i := 133) rfl)), List.forall_mem_cons.mpr ⟨(tb_6 _ (List.mem_of_getElem? (i := 135) rfl)), List.forall_mem_cons.mpr ⟨(tb_6 _ (List.mem_of_getElem? (i := 137) rfl)), List.forall_mem_cons.mpr ⟨(tb_6 _ (List.mem_of_getElem? (i := 139) rfl)), List.forall_mem_cons.mpr ⟨(tb_6 _ (List.mem_of_getElem? (i := 141) rfl)), List.forall_mem_cons.mpr ⟨(tb_6 _ (List.mem_of_getElem? (i := 143) rfl)), List.forall_mem_cons.mpr ⟨(tb_6 _ (List.mem_of_getElem? (i := 145) rfl)), List.forall_mem_cons.mpr ⟨(tb_6 _ (List.mem_of_getElem? (i := 147) rfl)), List.forall_mem_cons.mpr ⟨(tb_6 _ (List.mem_of_getElem? (i := 149) rfl)), List.forall_mem_cons.mpr ⟨(tb_6 _ (List.mem_of_getElem? (i := 151) rfl)), List.forall_mem_cons.mpr ⟨(tb_6 _ (List.mem_of_getElem? (i := 153) rfl)), List.forall_mem_cons.mpr ⟨(tb_6 _ (List.mem_of_getElem? (i := 155) rfl)), List.forall_mem_cons.mpr ⟨(tb_6 _ (List.mem_of_getElem? (i := 157) rfl)), List.forall_mem_cons.mpr ⟨(tb_6 _ (List.mem_of_getElem? (i := 159) rfl)), List.forall_mem_cons.mpr ⟨(tb_6 _ (List.mem_of_getElem? (i := 161) rfl)), List.forall_mem_cons.mpr ⟨(tb_6 _ (List.mem_of_getElem? (i := 163) rfl)), List.forall_mem_cons.mpr ⟨(tb_6 _ (List.mem_of_getElem? (i := 165) rfl)), List.forall_mem_cons.mpr ⟨(tb_6 _ (List.mem_of_getElem? (i := 167) rfl)), List.forall_mem_cons.mpr ⟨(tb_6 _ (List.mem_of_getElem? (i := 169) rfl)), List.forall_mem_cons.mpr ⟨(tb_6 _ (List.mem_of_getElem? (i := 171) rfl)), List.forall_mem_cons.mpr ⟨(tb_6 _ (List.mem_of_getElem? (i := 173) rfl)), List.forall_mem_cons.mpr ⟨(tb_6 _ (List.mem_of_getElem? (i := 175) rfl)), List.forall_mem_cons.mpr ⟨(tb_6 _ (List.mem_of_getElem? (i := 177) rfl)), List.forall_mem_cons.mpr ⟨(tb_6 _ (List.mem_of_getElem? (i := 179) rfl)), List.forall_mem_cons.mpr ⟨(tb_6 _ (List.mem_of_getElem? (i := 181) rfl)), List.forall_mem_cons.mpr ⟨(tb_6 _ (List.mem_of_getElem? (i := 183) rfl)), List.forall_mem_cons.mpr ⟨(tb_6 _ (List.mem_of_getElem? (i := 185) rfl)), List.forall_mem_cons.mpr ⟨(tb_6 _ (List.mem_of_getElem? (i := 187) rfl)), List.forall_mem_cons.mpr ⟨(tb_6 _ (List.mem_of_getElem? (i := 189) rfl)), List.forall_mem_cons.mpr ⟨(tb_6 _ (List.mem_of_getElem? (i := 191) rfl)), List.forall_mem_cons.mpr ⟨(tb_6 _ (List.mem_of_getElem? (i := 193) rfl)), List.forall_mem_cons.mpr ⟨(tb_6 _ (List.mem_of_getElem? (i := 195) rfl)), List.forall_mem_cons.mpr ⟨(tb_6 _ (List.mem_of_getElem? (i := 197) rfl)), List.forall_mem_cons.mpr ⟨(tb_6 _ (List.mem_of_getElem? (i := 199) rfl)), List.forall_mem_cons.mpr ⟨(tb_6 _ (List.mem_of_getElem? (i := 201) rfl)), List.forall_mem_cons.mpr ⟨(tb_6 _ (List.mem_of_getElem? (i := 203) rfl)), List.forall_mem_cons.mpr ⟨(tb_6 _ (List.mem_of_getElem? (i := 205) rfl)), List.forall_mem_cons.mpr ⟨(tb_6 _ (List.mem_of_getElem? (i := 207) rfl)), List.forall_mem_cons.mpr ⟨(tb_6 _ (List.mem_of_getElem? (i := 209) rfl)), List.forall_mem_cons.mpr ⟨(tb_6 _ (List.mem_of_getElem? (i := 211) rfl)), List.forall_mem_cons.mpr ⟨(tb_6 _ (List.mem_of_getElem? (i := 213) rfl)), List.forall_mem_cons.mpr ⟨(tb_6 _ (List.mem_of_getElem? (i := 215) rfl)), List.forall_mem_cons.mpr ⟨(tb_6 _ (List.mem_of_getElem? (i := 217) rfl)), List.forall_mem_cons.mpr ⟨(tb_6 _ (List.mem_of_getElem? (i := 219) rfl)), List.forall_mem_cons.mpr ⟨(tb_6 _ (List.mem_of_getElem? (i := 221) rfl)), List.forall_mem_cons.mpr ⟨(tb_6 _ (List.mem_of_getElem? (i := 223) rfl)), List.forall_mem_cons.mpr ⟨(tb_6 _ (List.mem_of_getElem? (i := 225) rfl)), List.forall_mem_cons.mpr ⟨(tb_6 _ (List.mem_of_getElem? (i := 227) rfl)), List.forall_mem_cons.mpr ⟨(tb_6 _ (List.mem_of_getElem? (i := 229) rfl)), List.forall_mem_cons.mpr ⟨(tb_6 _ (List.mem_of_getElem? (i := 231) rfl)), List.forall_mem_cons.mpr ⟨(tb_6 _ (List.mem_of_getElem? (i := 233) rfl)), List.forall_mem_cons.mpr ⟨(tb_6 _ (List.mem_of_getElem? (i := 235) rfl)), List.forall_mem_cons.mpr ⟨(tb_6 _ (List.mem_of_getElem? (i := 237) rfl)), List.forall_mem_cons.mpr ⟨(tb_6 _ (List.mem_of_getElem? (i := 239) rfl)), List.forall_mem_cons.mpr ⟨(tb_7 _ (List.mem_of_getElem? (i := 1) rfl)), List.forall_mem_cons.mpr ⟨(tb_7 _ (List.mem_of_getElem? (i := 3) rfl)), List.forall_mem_cons.mpr ⟨(tb_7 _ (List.mem_of_getElem? (i := 5) rfl)), List.forall_mem_cons.mpr ⟨(tb_7 _ (List.mem_of_getElem? (i := 7) rfl)), List.forall_mem_cons.mpr ⟨(tb_7 _ (List.mem_of_getElem? (i := 9) rfl)), List.forall_mem_cons.mpr ⟨(tb_7 _ (List.mem_of_getElem? (i := 11) rfl)), List.forall_mem_cons.mpr ⟨(tb_7 _ (List.mem_of_getElem? (i := 13) rfl)), List.forall_mem_cons.mpr ⟨(tb_7 _ (List.mem_of_getElem? (i := 15) rfl)), List.forall_mem_cons.mpr ⟨(tb_7 _ (List.mem_of_getElem? (i := 17) rfl)), fun _ h => absurd h List.not_mem_nil⟩⟩⟩⟩⟩⟩⟩⟩⟩⟩⟩⟩⟩⟩⟩⟩⟩⟩⟩⟩⟩⟩⟩⟩⟩⟩⟩⟩⟩⟩⟩⟩⟩⟩⟩⟩⟩⟩⟩⟩⟩⟩⟩⟩⟩⟩⟩⟩⟩⟩⟩⟩⟩⟩⟩⟩⟩⟩⟩⟩⟩⟩⟩⟩⟩⟩⟩⟩⟩⟩⟩⟩⟩
theorem ins_31 : Cond.instantiable "PaidFacesModel" 73 ∈ lw_tbl ∧ Cond.initialized "PaidFacesModel" ∈ lw_tbl := ⟨(tb_6 _ (List.mem_of_getElem? (i := 31) rfl)), (tb_1 _ (List.mem_of_getElem? (i := 14) rfl))⟩
def isNest : Jvm.Cond → Bool
  | .fieldLinkNest .. => true
  | .methodLinkNest .. => true
  | _ => false
def YS : List (MethodName × ByteArray × Option FieldType × Nat) := [(⟨"PaidFacesLaw", "law", "([I)Z"⟩, code, some FieldType.boolean, 0),
  (⟨"PaidFaces", "<init>", "()V"⟩, prog_1_method_1_code, none, 1),
  (⟨"PaidFaces", "feed", "(IIIII)I"⟩, prog_1_method_2_code, some FieldType.int, 1),
  (⟨"PaidFaces", "putFour", "(I)V"⟩, prog_1_method_3_code, none, 1),
  (⟨"PaidFaces", "text", "(I)I"⟩, prog_1_method_4_code, some FieldType.int, 1),
  (⟨"PaidFaces", "fault", "(I)I"⟩, prog_1_method_5_code, some FieldType.int, 1),
  (⟨"PaidFaces", "named", "(II)I"⟩, prog_1_method_6_code, some FieldType.int, 1),
  (⟨"PaidFaces", "look", "(II)I"⟩, prog_1_method_7_code, some FieldType.int, 1),
  (⟨"PaidFaces", "piece", "(II)I"⟩, prog_1_method_8_code, some FieldType.int, 1),
  (⟨"PaidFaces", "law", "(III)J"⟩, prog_1_method_9_code, some FieldType.long, 1),
  (⟨"PaidFaces", "days", "(I)I"⟩, prog_1_method_10_code, some FieldType.int, 1),
  (⟨"PaidFaces", "log", "(II)I"⟩, prog_1_method_11_code, some FieldType.int, 1),
  (⟨"PaidFaces", "tried", "(III)I"⟩, prog_1_method_12_code, some FieldType.int, 1),
  (⟨"PaidFaces", "canTry", "(II)Z"⟩, prog_1_method_13_code, some FieldType.boolean, 1),
  (⟨"PaidFaces", "gallery", "(II)I"⟩, prog_1_method_14_code, some FieldType.int, 1),
  (⟨"PaidFaces", "auction", "(II)I"⟩, prog_1_method_15_code, some FieldType.int, 1),
  (⟨"PaidFaces", "sell", "(I)I"⟩, prog_1_method_16_code, some FieldType.int, 1),
  (⟨"PaidFaces", "canBeSold", "(I)Z"⟩, prog_1_method_17_code, some FieldType.boolean, 1),
  (⟨"PaidFaces", "dies", "(I)I"⟩, prog_1_method_18_code, some FieldType.int, 1),
  (⟨"PaidFaces", "match", "(I)I"⟩, prog_1_method_19_code, some FieldType.int, 1),
  (⟨"PaidFaces", "adopt", "()I"⟩, prog_1_method_20_code, some FieldType.int, 1),
  (⟨"PaidFaces", "forge", "(I)I"⟩, prog_1_method_21_code, some FieldType.int, 1),
  (⟨"PaidFaces", "give", "(II)I"⟩, prog_1_method_22_code, some FieldType.int, 1),
  (⟨"PaidFaces", "owner", "(II)I"⟩, prog_1_method_23_code, some FieldType.int, 1),
  (⟨"PaidFaces", "undo", "()I"⟩, prog_1_method_24_code, some FieldType.int, 1),
  (⟨"PaidFaces", "see", "(IZ)I"⟩, prog_1_method_25_code, some FieldType.int, 1),
  (⟨"PaidFaces", "strike", "(I)I"⟩, prog_1_method_26_code, some FieldType.int, 1),
  (⟨"PaidFaces", "known", "(I)Z"⟩, prog_1_method_27_code, some FieldType.boolean, 1),
  (⟨"PaidFaces", "who", "()I"⟩, prog_1_method_28_code, some FieldType.int, 1),
  (⟨"PaidFaces", "forged", "()I"⟩, prog_1_method_29_code, some FieldType.int, 1),
  (⟨"PaidFaces", "keep", "()I"⟩, prog_1_method_30_code, some FieldType.int, 1),
  (⟨"PaidFaces", "back", "()I"⟩, prog_1_method_31_code, some FieldType.int, 1),
  (⟨"PaidFaces", "count", "(I)I"⟩, prog_1_method_32_code, some FieldType.int, 1),
  (⟨"PaidFaces$Parser", "<init>", "()V"⟩, prog_8_method_1_code, none, 2),
  (⟨"PaidFaces$Parser", "read", "([CILPaidFaces$Book;)Z"⟩, prog_8_method_2_code, some FieldType.boolean, 2),
  (⟨"PaidFaces$Parser", "refuse", "(I)Z"⟩, prog_8_method_3_code, some FieldType.boolean, 2),
  (⟨"PaidFaces$Parser", "readFeature", "()Z"⟩, prog_8_method_4_code, some FieldType.boolean, 2),
  (⟨"PaidFaces$Parser", "readSitter", "()Z"⟩, prog_8_method_5_code, some FieldType.boolean, 2),
  (⟨"PaidFaces$Parser", "isFreshName", "(I)Z"⟩, prog_8_method_6_code, some FieldType.boolean, 2),
  (⟨"PaidFaces$Parser", "isNumber", "(II)Z"⟩, prog_8_method_7_code, some FieldType.boolean, 2),
  (⟨"PaidFaces$Parser", "nextSitter", "()I"⟩, prog_8_method_8_code, some FieldType.int, 2),
  (⟨"PaidFaces$Parser", "nextFeature", "()I"⟩, prog_8_method_9_code, some FieldType.int, 2),
  (⟨"PaidFaces$Parser", "isToldName", "(I)Z"⟩, prog_8_method_10_code, some FieldType.boolean, 2),
  (⟨"PaidFaces$Parser", "readWants", "()Z"⟩, prog_8_method_11_code, some FieldType.boolean, 2),
  (⟨"PaidFaces$Parser", "readKin", "()Z"⟩, prog_8_method_12_code, some FieldType.boolean, 2),
  (⟨"PaidFaces$Parser", "readTwin", "()Z"⟩, prog_8_method_13_code, some FieldType.boolean, 2),
  (⟨"PaidFaces$Parser", "readHeir", "()Z"⟩, prog_8_method_14_code, some FieldType.boolean, 2),
  (⟨"PaidFaces$Parser", "readHail", "()Z"⟩, prog_8_method_15_code, some FieldType.boolean, 2),
  (⟨"PaidFaces$Parser", "readLaw", "()Z"⟩, prog_8_method_16_code, some FieldType.boolean, 2),
  (⟨"PaidFaces$Parser", "readTerms", "(LPaidFaces$Law;)Z"⟩, prog_8_method_17_code, some FieldType.boolean, 2),
  (⟨"PaidFaces$Parser", "putOperand", "(LPaidFaces$Law;)Z"⟩, prog_8_method_18_code, some FieldType.boolean, 2),
  (⟨"PaidFaces$Parser", "putOperator", "(LPaidFaces$Law;)Z"⟩, prog_8_method_19_code, some FieldType.boolean, 2),
  (⟨"PaidFaces$Parser", "isKnotLeft", "()Z"⟩, prog_8_method_20_code, some FieldType.boolean, 2),
  (⟨"PaidFaces$Parser", "letWait", "(LPaidFaces$Token;)Z"⟩, prog_8_method_21_code, some FieldType.boolean, 2),
  (⟨"PaidFaces$Parser", "topLevel", "()I"⟩, prog_8_method_22_code, some FieldType.int, 2),
  (⟨"PaidFaces$Parser", "release", "(LPaidFaces$Law;I)V"⟩, prog_8_method_23_code, none, 2),
  (⟨"PaidFaces$Reader", "<init>", "()V"⟩, prog_10_method_1_code, none, 3),
  (⟨"PaidFaces$Reader", "start", "([CI)V"⟩, prog_10_method_2_code, none, 3),
  (⟨"PaidFaces$Reader", "advance", "()V"⟩, prog_10_method_3_code, none, 3),
  (⟨"PaidFaces$Reader", "readWord", "()V"⟩, prog_10_method_4_code, none, 3),
  (⟨"PaidFaces$Reader", "isSpelled", "(Ljava/lang/String;)Z"⟩, prog_10_method_5_code, some FieldType.boolean, 3),
  (⟨"PaidFaces$Reader", "readNumber", "()V"⟩, prog_10_method_6_code, none, 3),
  (⟨"PaidFaces$Reader", "readSign", "()V"⟩, prog_10_method_7_code, none, 3),
  (⟨"PaidFaces$Reader", "isNext", "(C)Z"⟩, prog_10_method_8_code, some FieldType.boolean, 3),
  (⟨"PaidFaces$Book", "<init>", "()V"⟩, prog_4_method_1_code, none, 4),
  (⟨"PaidFaces$Book", "clear", "()V"⟩, prog_4_method_2_code, none, 4),
  (⟨"PaidFaces$Book", "isFeature", "(I)Z"⟩, prog_4_method_3_code, some FieldType.boolean, 4),
  (⟨"PaidFaces$Book", "isSitter", "(I)Z"⟩, prog_4_method_4_code, some FieldType.boolean, 4),
  (⟨"PaidFaces$Book", "isPiece", "(I)Z"⟩, prog_4_method_5_code, some FieldType.boolean, 4),
  (⟨"PaidFaces$Book", "isHail", "(I)Z"⟩, prog_4_method_6_code, some FieldType.boolean, 4),
  (⟨"PaidFaces$Book", "featureNamed", "(I)I"⟩, prog_4_method_7_code, some FieldType.int, 4),
  (⟨"PaidFaces$Book", "sitterNamed", "(I)I"⟩, prog_4_method_8_code, some FieldType.int, 4),
  (⟨"PaidFaces$Book", "pieceOf", "(II)I"⟩, prog_4_method_9_code, some FieldType.int, 4),
  (⟨"PaidFaces$Book", "addFeature", "(III)V"⟩, prog_4_method_10_code, none, 4),
  (⟨"PaidFaces$Book", "addSitter", "(III)V"⟩, prog_4_method_11_code, none, 4),
  (⟨"PaidFaces$Book", "addPiece", "(III)V"⟩, prog_4_method_12_code, none, 4),
  (⟨"PaidFaces$Book", "addKin", "(III)V"⟩, prog_4_method_13_code, none, 4),
  (⟨"PaidFaces$Book", "baseOf", "(I)I"⟩, prog_4_method_14_code, some FieldType.int, 4),
  (⟨"PaidFaces$Book", "sizeOf", "(I)I"⟩, prog_4_method_15_code, some FieldType.int, 4),
  (⟨"PaidFaces$Book", "knots", "()I"⟩, prog_4_method_16_code, some FieldType.int, 4),
  (⟨"PaidFaces$Law", "<init>", "()V"⟩, prog_5_method_1_code, none, 5),
  (⟨"PaidFaces$Law", "add", "(LPaidFaces$Token;I)V"⟩, prog_5_method_2_code, none, 5),
  (⟨"PaidFaces$Law", "worth", "([I)J"⟩, prog_5_method_3_code, some FieldType.long, 5),
  (⟨"PaidFaces$Law", "join", "(LPaidFaces$Token;JJ)J"⟩, prog_5_method_4_code, some FieldType.long, 5),
  (⟨"PaidFaces$State", "<init>", "(LPaidFaces$Book;)V"⟩, prog_12_method_1_code, none, 6),
  (⟨"PaidFaces$State", "begin", "(LPaidFaces$Book;)V"⟩, prog_12_method_2_code, none, 6),
  (⟨"PaidFaces$State", "copyFrom", "(LPaidFaces$State;)V"⟩, prog_12_method_3_code, none, 6),
  (⟨"PaidFaces$State", "lives", "(I)Z"⟩, prog_12_method_4_code, some FieldType.boolean, 6),
  (⟨"PaidFaces$State", "isLapsed", "(I)Z"⟩, prog_12_method_5_code, some FieldType.boolean, 6),
  (⟨"PaidFaces$State", "isDone", "(I)Z"⟩, prog_12_method_6_code, some FieldType.boolean, 6),
  (⟨"PaidFaces$State", "isPaidUp", "(I)Z"⟩, prog_12_method_7_code, some FieldType.boolean, 6),
  (⟨"PaidFaces$State", "isOpenToBrush", "(I)Z"⟩, prog_12_method_8_code, some FieldType.boolean, 6),
  (⟨"PaidFaces$State", "standingOf", "(I)I"⟩, prog_12_method_9_code, some FieldType.int, 6),
  (⟨"PaidFaces$State", "priceOf", "(I)I"⟩, prog_12_method_10_code, some FieldType.int, 6),
  (⟨"PaidFaces$State", "pickOf", "(I)J"⟩, prog_12_method_11_code, some FieldType.long, 6),
  (⟨"PaidFaces$State", "limitOf", "(II)I"⟩, prog_12_method_12_code, some FieldType.int, 6),
  (⟨"PaidFaces$State", "lawOf", "(III)J"⟩, prog_12_method_13_code, some FieldType.long, 6),
  (⟨"PaidFaces$State", "ownedBy", "(I)I"⟩, prog_12_method_14_code, some FieldType.int, 6),
  (⟨"PaidFaces$State", "ownsFeature", "(II)Z"⟩, prog_12_method_15_code, some FieldType.boolean, 6),
  (⟨"PaidFaces$State", "faceOf", "(I)I"⟩, prog_12_method_16_code, some FieldType.int, 6),
  (⟨"PaidFaces$State", "isShared", "(III)Z"⟩, prog_12_method_17_code, some FieldType.boolean, 6),
  (⟨"PaidFaces$State", "addStroke", "(I)V"⟩, prog_12_method_18_code, none, 6),
  (⟨"PaidFaces$State", "own", "(II)V"⟩, prog_12_method_19_code, none, 6),
  (⟨"PaidFaces$State", "ownerBefore", "(II)I"⟩, prog_12_method_20_code, some FieldType.int, 6),
  (⟨"PaidFaces$State", "bury", "(I)I"⟩, prog_12_method_21_code, some FieldType.int, 6),
  (⟨"PaidFaces$State", "livingHeirOf", "(I)I"⟩, prog_12_method_22_code, some FieldType.int, 6),
  (⟨"PaidFaces$State", "doneCount", "()I"⟩, prog_12_method_23_code, some FieldType.int, 6),
  (⟨"PaidFaces$State", "allPurses", "()I"⟩, prog_12_method_24_code, some FieldType.int, 6),
  (⟨"PaidFaces$Painter", "<init>", "()V"⟩, prog_7_method_1_code, none, 7),
  (⟨"PaidFaces$Painter", "liveDay", "(LPaidFaces$State;II)V"⟩, prog_7_method_2_code, none, 7),
  (⟨"PaidFaces$Painter", "pay", "(LPaidFaces$State;I)I"⟩, prog_7_method_3_code, some FieldType.int, 7),
  (⟨"PaidFaces$Painter", "firstDue", "(LPaidFaces$State;I)I"⟩, prog_7_method_4_code, some FieldType.int, 7),
  (⟨"PaidFaces$Painter", "takeOut", "(LPaidFaces$State;III)I"⟩, prog_7_method_5_code, some FieldType.int, 7),
  (⟨"PaidFaces$Painter", "choose", "(LPaidFaces$State;II)I"⟩, prog_7_method_6_code, some FieldType.int, 7),
  (⟨"PaidFaces$Painter", "isPaintable", "(LPaidFaces$State;III)Z"⟩, prog_7_method_7_code, some FieldType.boolean, 7),
  (⟨"PaidFaces$Painter", "lapse", "(LPaidFaces$State;)I"⟩, prog_7_method_8_code, some FieldType.int, 7),
  (⟨"PaidFaces$Painter", "hang", "(LPaidFaces$State;I)V"⟩, prog_7_method_9_code, none, 7),
  (⟨"PaidFaces$Painter", "weigh", "(III)V"⟩, prog_7_method_10_code, none, 7),
  (⟨"PaidFaces$Auction", "<init>", "()V"⟩, prog_3_method_1_code, none, 8),
  (⟨"PaidFaces$Auction", "call", "(LPaidFaces$State;I)V"⟩, prog_3_method_2_code, none, 8),
  (⟨"PaidFaces$Matching", "<init>", "()V"⟩, prog_6_method_1_code, none, 9),
  (⟨"PaidFaces$Matching", "make", "(LPaidFaces$State;)V"⟩, prog_6_method_2_code, none, 9),
  (⟨"PaidFaces$Matching", "takersOf", "(LPaidFaces$State;I)I"⟩, prog_6_method_3_code, some FieldType.int, 9),
  (⟨"PaidFaces$Matching", "bestFrom", "(II)I"⟩, prog_6_method_4_code, some FieldType.int, 9),
  (⟨"PaidFaces$Matching", "leastTaker", "(II)I"⟩, prog_6_method_5_code, some FieldType.int, 9),
  (⟨"PaidFaces$Seen", "<init>", "()V"⟩, prog_11_method_1_code, none, 10),
  (⟨"PaidFaces$Seen", "forget", "()V"⟩, prog_11_method_2_code, none, 10),
  (⟨"PaidFaces$Seen", "add", "(II)I"⟩, prog_11_method_3_code, some FieldType.int, 10),
  (⟨"PaidFaces$Seen", "knownCount", "()I"⟩, prog_11_method_4_code, some FieldType.int, 10),
  (⟨"PaidFaces$Seen", "ask", "()V"⟩, prog_11_method_5_code, none, 10),
  (⟨"PaidFaces$Seen", "fits", "(I)Z"⟩, prog_11_method_6_code, some FieldType.boolean, 10),
  (⟨"PaidFaces$Past", "<init>", "(LPaidFaces$Book;)V"⟩, prog_9_method_1_code, none, 11),
  (⟨"PaidFaces$Past", "forget", "()V"⟩, prog_9_method_2_code, none, 11),
  (⟨"PaidFaces$Past", "remember", "(LPaidFaces$State;)V"⟩, prog_9_method_3_code, none, 11),
  (⟨"PaidFaces$Past", "takeBack", "(LPaidFaces$State;)I"⟩, prog_9_method_4_code, some FieldType.int, 11),
  (⟨"PaidFacesModel", "<init>", "()V"⟩, prog_15_method_1_code, none, 12),
  (⟨"PaidFacesModel", "thrown", "()I"⟩, prog_15_method_2_code, some FieldType.int, 12),
  (⟨"PaidFacesModel", "feed", "(IIIII)I"⟩, prog_15_method_3_code, some FieldType.int, 12),
  (⟨"PaidFacesModel", "here", "()I"⟩, prog_15_method_4_code, some FieldType.int, 12),
  (⟨"PaidFacesModel", "isSmall", "(I)Z"⟩, prog_15_method_5_code, some FieldType.boolean, 12),
  (⟨"PaidFacesModel", "isDigit", "(I)Z"⟩, prog_15_method_6_code, some FieldType.boolean, 12),
  (⟨"PaidFacesModel", "token", "()V"⟩, prog_15_method_7_code, none, 12),
  (⟨"PaidFacesModel", "sign", "(I)V"⟩, prog_15_method_8_code, none, 12),
  (⟨"PaidFacesModel", "word", "()I"⟩, prog_15_method_9_code, some FieldType.int, 12),
  (⟨"PaidFacesModel", "name", "()V"⟩, prog_15_method_10_code, none, 12),
  (⟨"PaidFacesModel", "wrong", "(I)V"⟩, prog_15_method_11_code, none, 12),
  (⟨"PaidFacesModel", "isWord", "(I)Z"⟩, prog_15_method_12_code, some FieldType.boolean, 12),
  (⟨"PaidFacesModel", "isSign", "(I)Z"⟩, prog_15_method_13_code, some FieldType.boolean, 12),
  (⟨"PaidFacesModel", "goOn", "()V"⟩, prog_15_method_14_code, none, 12),
  (⟨"PaidFacesModel", "numeral", "(II)I"⟩, prog_15_method_15_code, some FieldType.int, 12),
  (⟨"PaidFacesModel", "found", "([IIII)I"⟩, prog_15_method_16_code, some FieldType.int, 12),
  (⟨"PaidFacesModel", "fresh", "([III)I"⟩, prog_15_method_17_code, some FieldType.int, 12),
  (⟨"PaidFacesModel", "atHand", "([III)I"⟩, prog_15_method_18_code, some FieldType.int, 12),
  (⟨"PaidFacesModel", "sitterAtHand", "()I"⟩, prog_15_method_19_code, some FieldType.int, 12),
  (⟨"PaidFacesModel", "featureAtHand", "()I"⟩, prog_15_method_20_code, some FieldType.int, 12),
  (⟨"PaidFacesModel", "fresher", "(I)I"⟩, prog_15_method_21_code, some FieldType.int, 12),
  (⟨"PaidFacesModel", "oneMore", "(I)V"⟩, prog_15_method_22_code, none, 12),
  (⟨"PaidFacesModel", "isFull", "(I)Z"⟩, prog_15_method_23_code, some FieldType.boolean, 12),
  (⟨"PaidFacesModel", "line", "()V"⟩, prog_15_method_24_code, none, 12),
  (⟨"PaidFacesModel", "wantsLine", "(I)V"⟩, prog_15_method_25_code, none, 12),
  (⟨"PaidFacesModel", "kinLine", "(I)V"⟩, prog_15_method_26_code, none, 12),
  (⟨"PaidFacesModel", "twinLine", "()V"⟩, prog_15_method_27_code, none, 12),
  (⟨"PaidFacesModel", "heirLine", "()V"⟩, prog_15_method_28_code, none, 12),
  (⟨"PaidFacesModel", "hailLine", "()V"⟩, prog_15_method_29_code, none, 12),
  (⟨"PaidFacesModel", "lawLine", "()V"⟩, prog_15_method_30_code, none, 12),
  (⟨"PaidFacesModel", "puts", "(II)V"⟩, prog_15_method_31_code, none, 12),
  (⟨"PaidFacesModel", "knot", "()V"⟩, prog_15_method_32_code, none, 12),
  (⟨"PaidFacesModel", "expression", "()V"⟩, prog_15_method_33_code, none, 12),
  (⟨"PaidFacesModel", "conjunction", "()V"⟩, prog_15_method_34_code, none, 12),
  (⟨"PaidFacesModel", "negation", "()V"⟩, prog_15_method_35_code, none, 12),
  (⟨"PaidFacesModel", "sum", "()V"⟩, prog_15_method_36_code, none, 12),
  (⟨"PaidFacesModel", "product", "()V"⟩, prog_15_method_37_code, none, 12),
  (⟨"PaidFacesModel", "primary", "()V"⟩, prog_15_method_38_code, none, 12),
  (⟨"PaidFacesModel", "half", "([I)V"⟩, prog_15_method_39_code, none, 12),
  (⟨"PaidFacesModel", "text", "(I)I"⟩, prog_15_method_40_code, some FieldType.int, 12),
  (⟨"PaidFacesModel", "fault", "(I)I"⟩, prog_15_method_41_code, some FieldType.int, 12),
  (⟨"PaidFacesModel", "named", "(II)I"⟩, prog_15_method_42_code, some FieldType.int, 12),
  (⟨"PaidFacesModel", "begins", "()V"⟩, prog_15_method_43_code, none, 12),
  (⟨"PaidFacesModel", "copies", "(II)V"⟩, prog_15_method_44_code, none, 12),
  (⟨"PaidFacesModel", "copiesLog", "(II)V"⟩, prog_15_method_45_code, none, 12),
  (⟨"PaidFacesModel", "isSitter", "(I)Z"⟩, prog_15_method_46_code, some FieldType.boolean, 12),
  (⟨"PaidFacesModel", "isFeature", "(I)Z"⟩, prog_15_method_47_code, some FieldType.boolean, 12),
  (⟨"PaidFacesModel", "isPiece", "(I)Z"⟩, prog_15_method_48_code, some FieldType.boolean, 12),
  (⟨"PaidFacesModel", "lives", "(II)Z"⟩, prog_15_method_49_code, some FieldType.boolean, 12),
  (⟨"PaidFacesModel", "isLapsed", "(II)Z"⟩, prog_15_method_50_code, some FieldType.boolean, 12),
  (⟨"PaidFacesModel", "isDone", "(II)Z"⟩, prog_15_method_51_code, some FieldType.boolean, 12),
  (⟨"PaidFacesModel", "ownedBy", "(II)I"⟩, prog_15_method_52_code, some FieldType.int, 12),
  (⟨"PaidFacesModel", "owns", "(III)V"⟩, prog_15_method_53_code, none, 12),
  (⟨"PaidFacesModel", "plain", "()V"⟩, prog_15_method_54_code, none, 12),
  (⟨"PaidFacesModel", "is", "(Z)J"⟩, prog_15_method_55_code, some FieldType.long, 12),
  (⟨"PaidFacesModel", "works", "(I)Z"⟩, prog_15_method_56_code, some FieldType.boolean, 12),
  (⟨"PaidFacesModel", "goes", "(I)Z"⟩, prog_15_method_57_code, some FieldType.boolean, 12),
  (⟨"PaidFacesModel", "hasLaw", "(I)Z"⟩, prog_15_method_58_code, some FieldType.boolean, 12),
  (⟨"PaidFacesModel", "asks", "(IIII)Z"⟩, prog_15_method_59_code, some FieldType.boolean, 12),
  (⟨"PaidFacesModel", "within", "(JII)I"⟩, prog_15_method_60_code, some FieldType.int, 12),
  (⟨"PaidFacesModel", "priceOf", "(II)I"⟩, prog_15_method_61_code, some FieldType.int, 12),
  (⟨"PaidFacesModel", "isPaidUp", "(II)Z"⟩, prog_15_method_62_code, some FieldType.boolean, 12),
  (⟨"PaidFacesModel", "pickOf", "(II)J"⟩, prog_15_method_63_code, some FieldType.long, 12),
  (⟨"PaidFacesModel", "canBe", "(II)Z"⟩, prog_15_method_64_code, some FieldType.boolean, 12),
  (⟨"PaidFacesModel", "gives", "(III)I"⟩, prog_15_method_65_code, some FieldType.int, 12),
  (⟨"PaidFacesModel", "pays", "(I)I"⟩, prog_15_method_66_code, some FieldType.int, 12),
  (⟨"PaidFacesModel", "isHail", "(I)Z"⟩, prog_15_method_67_code, some FieldType.boolean, 12),
  (⟨"PaidFacesModel", "picked", "(I)I"⟩, prog_15_method_68_code, some FieldType.int, 12),
  (⟨"PaidFacesModel", "strokes", "(II)V"⟩, prog_15_method_69_code, none, 12),
  (⟨"PaidFacesModel", "passes", "(I)V"⟩, prog_15_method_70_code, none, 12),
  (⟨"PaidFacesModel", "lookOf", "(I)I"⟩, prog_15_method_71_code, some FieldType.int, 12),
  (⟨"PaidFacesModel", "look", "(II)I"⟩, prog_15_method_72_code, some FieldType.int, 12),
  (⟨"PaidFacesModel", "piece", "(II)I"⟩, prog_15_method_73_code, some FieldType.int, 12),
  (⟨"PaidFacesModel", "law", "(III)J"⟩, prog_15_method_74_code, some FieldType.long, 12),
  (⟨"PaidFacesModel", "days", "(I)I"⟩, prog_15_method_75_code, some FieldType.int, 12),
  (⟨"PaidFacesModel", "log", "(II)I"⟩, prog_15_method_76_code, some FieldType.int, 12),
  (⟨"PaidFacesModel", "layGallery", "(I)V"⟩, prog_15_method_77_code, none, 12),
  (⟨"PaidFacesModel", "gallery", "(II)I"⟩, prog_15_method_78_code, some FieldType.int, 12),
  (⟨"PaidFacesModel", "limitOf", "(II)I"⟩, prog_15_method_79_code, some FieldType.int, 12),
  (⟨"PaidFacesModel", "bids", "(III)Z"⟩, prog_15_method_80_code, some FieldType.boolean, 12),
  (⟨"PaidFacesModel", "holds", "(I)V"⟩, prog_15_method_81_code, none, 12),
  (⟨"PaidFacesModel", "canSell", "(I)Z"⟩, prog_15_method_82_code, some FieldType.boolean, 12),
  (⟨"PaidFacesModel", "auction", "(II)I"⟩, prog_15_method_83_code, some FieldType.int, 12),
  (⟨"PaidFacesModel", "keepNow", "()V"⟩, prog_15_method_84_code, none, 12),
  (⟨"PaidFacesModel", "sell", "(I)I"⟩, prog_15_method_85_code, some FieldType.int, 12),
  (⟨"PaidFacesModel", "dies", "(I)I"⟩, prog_15_method_86_code, some FieldType.int, 12),
  (⟨"PaidFacesModel", "hasFeature", "(II)Z"⟩, prog_15_method_87_code, some FieldType.boolean, 12),
  (⟨"PaidFacesModel", "matches", "(III)V"⟩, prog_15_method_88_code, none, 12),
  (⟨"PaidFacesModel", "layMatch", "()V"⟩, prog_15_method_89_code, none, 12),
  (⟨"PaidFacesModel", "match", "(I)I"⟩, prog_15_method_90_code, some FieldType.int, 12),
  (⟨"PaidFacesModel", "adopt", "()I"⟩, prog_15_method_91_code, some FieldType.int, 12),
  (⟨"PaidFacesModel", "forge", "(I)I"⟩, prog_15_method_92_code, some FieldType.int, 12),
  (⟨"PaidFacesModel", "owner", "(II)I"⟩, prog_15_method_93_code, some FieldType.int, 12),
  (⟨"PaidFacesModel", "give", "(II)I"⟩, prog_15_method_94_code, some FieldType.int, 12),
  (⟨"PaidFacesModel", "see", "(IZ)I"⟩, prog_15_method_95_code, some FieldType.int, 12),
  (⟨"PaidFacesModel", "strike", "(I)I"⟩, prog_15_method_96_code, some FieldType.int, 12),
  (⟨"PaidFacesModel", "known", "(I)Z"⟩, prog_15_method_97_code, some FieldType.boolean, 12),
  (⟨"PaidFacesModel", "knownMany", "()I"⟩, prog_15_method_98_code, some FieldType.int, 12),
  (⟨"PaidFacesModel", "who", "()I"⟩, prog_15_method_99_code, some FieldType.int, 12),
  (⟨"PaidFacesModel", "forged", "()I"⟩, prog_15_method_100_code, some FieldType.int, 12),
  (⟨"PaidFacesModel", "tried", "(III)I"⟩, prog_15_method_101_code, some FieldType.int, 12),
  (⟨"PaidFacesModel", "doneMany", "(I)I"⟩, prog_15_method_102_code, some FieldType.int, 12),
  (⟨"PaidFacesModel", "undo", "()I"⟩, prog_15_method_103_code, some FieldType.int, 12),
  (⟨"PaidFacesModel", "keep", "()I"⟩, prog_15_method_104_code, some FieldType.int, 12),
  (⟨"PaidFacesModel", "back", "()I"⟩, prog_15_method_105_code, some FieldType.int, 12),
  (⟨"PaidFacesModel", "count", "(I)I"⟩, prog_15_method_106_code, some FieldType.int, 12),
  (⟨"java/lang/Enum", "ordinal", "()I"⟩, prog_19_method_2_code, some FieldType.int, 13),
  (⟨"java/lang/Math", "abs", "(J)J"⟩, prog_22_method_61_code, some FieldType.long, 14),
  (⟨"java/lang/Math", "max", "(II)I"⟩, prog_22_method_65_code, some FieldType.int, 14),
  (⟨"java/lang/Math", "max", "(JJ)J"⟩, prog_22_method_66_code, some FieldType.long, 14),
  (⟨"java/lang/Math", "min", "(II)I"⟩, prog_22_method_69_code, some FieldType.int, 14),
  (⟨"java/lang/Math", "min", "(JJ)J"⟩, prog_22_method_70_code, some FieldType.long, 14),
  (⟨"java/lang/String", "length", "()I"⟩, prog_24_method_54_code, some FieldType.int, 15),
  (⟨"java/lang/String", "charAt", "(I)C"⟩, prog_24_method_56_code, some FieldType.char, 15),
  (⟨"java/lang/String", "coder", "()B"⟩, prog_24_method_152_code, some FieldType.byte, 15),
  (⟨"java/lang/String", "isLatin1", "()Z"⟩, prog_24_method_154_code, some FieldType.boolean, 15),
  (⟨"java/lang/String", "checkIndex", "(II)V"⟩, prog_24_method_155_code, none, 15),
  (⟨"java/lang/StringLatin1", "charAt", "([BI)C"⟩, prog_25_method_2_code, some FieldType.char, 16),
  (⟨"jdk/internal/util/Preconditions", "checkIndex", "(IILjava/util/function/BiFunction;)I"⟩, prog_32_method_11_code, some FieldType.int, 17),
  (⟨"PaidFacesLaw", "look", "(LPaidFaces;II[J)I"⟩, method_3_code, some FieldType.int, 0)]
def YG (y : Nat) : MethodName × ByteArray × Option FieldType × Nat := YS.getD y (⟨"", "", ""⟩, ⟨#[]⟩, none, 99)
def yN (y : Nat) : MethodName := (YG y).1
def yB (y : Nat) : ByteArray := (YG y).2.1
def yR (y : Nat) : Option FieldType := (YG y).2.2.1
def yO (y : Nat) : Nat := (YG y).2.2.2
/-- a method: its number, the places of its code word and of its class's being initialized, how many arguments (this too), static? -/
def MP (k np : Nat) : Prop := Cond.code (yN k) (yB k) (nlo k) (yR k) ∈ lw_tbl ∧ Cond.initialized (yN k).cls ∈ lw_tbl ∧ ((yN k).cls ≠ "java/lang/invoke/MethodHandle" ∧ (yN k).cls ≠ "java/lang/invoke/VarHandle" ∧ (parseMethodDescriptor (yN k).desc).map (fun d => d.parameters.length) = some np) ∧ plainName (yN k).cls = true ∧ CN (yO k) = (yN k).cls ∧ nlo k ≤ 24
set_option maxRecDepth 10000 in
theorem mp_1 : MP 1 0 := ⟨(tb_1 _ (List.mem_of_getElem? (i := 31) rfl)), (tb_1 _ (List.mem_of_getElem? (i := 1) rfl)), by decide +kernel, by decide +kernel, by decide +kernel, by decide +kernel⟩
set_option maxRecDepth 10000 in
theorem mp_2 : MP 2 5 := ⟨(tb_3 _ (List.mem_of_getElem? (i := 15) rfl)), (tb_1 _ (List.mem_of_getElem? (i := 1) rfl)), by decide +kernel, by decide +kernel, by decide +kernel, by decide +kernel⟩
set_option maxRecDepth 10000 in
theorem mp_3 : MP 3 1 := ⟨(tb_3 _ (List.mem_of_getElem? (i := 19) rfl)), (tb_1 _ (List.mem_of_getElem? (i := 1) rfl)), by decide +kernel, by decide +kernel, by decide +kernel, by decide +kernel⟩
set_option maxRecDepth 10000 in
theorem mp_4 : MP 4 1 := ⟨(tb_3 _ (List.mem_of_getElem? (i := 23) rfl)), (tb_1 _ (List.mem_of_getElem? (i := 1) rfl)), by decide +kernel, by decide +kernel, by decide +kernel, by decide +kernel⟩
set_option maxRecDepth 10000 in
theorem mp_5 : MP 5 1 := ⟨(tb_4 _ (List.mem_of_getElem? (i := 66) rfl)), (tb_1 _ (List.mem_of_getElem? (i := 1) rfl)), by decide +kernel, by decide +kernel, by decide +kernel, by decide +kernel⟩
set_option maxRecDepth 10000 in
theorem mp_6 : MP 6 2 := ⟨(tb_4 _ (List.mem_of_getElem? (i := 70) rfl)), (tb_1 _ (List.mem_of_getElem? (i := 1) rfl)), by decide +kernel, by decide +kernel, by decide +kernel, by decide +kernel⟩
set_option maxRecDepth 10000 in
theorem mp_7 : MP 7 2 := ⟨(tb_5 _ (List.mem_of_getElem? (i := 185) rfl)), (tb_1 _ (List.mem_of_getElem? (i := 1) rfl)), by decide +kernel, by decide +kernel, by decide +kernel, by decide +kernel⟩
set_option maxRecDepth 10000 in
theorem mp_8 : MP 8 2 := ⟨(tb_4 _ (List.mem_of_getElem? (i := 76) rfl)), (tb_1 _ (List.mem_of_getElem? (i := 1) rfl)), by decide +kernel, by decide +kernel, by decide +kernel, by decide +kernel⟩
set_option maxRecDepth 10000 in
theorem mp_9 : MP 9 3 := ⟨(tb_4 _ (List.mem_of_getElem? (i := 147) rfl)), (tb_1 _ (List.mem_of_getElem? (i := 1) rfl)), by decide +kernel, by decide +kernel, by decide +kernel, by decide +kernel⟩
set_option maxRecDepth 10000 in
theorem mp_10 : MP 10 1 := ⟨(tb_4 _ (List.mem_of_getElem? (i := 153) rfl)), (tb_1 _ (List.mem_of_getElem? (i := 1) rfl)), by decide +kernel, by decide +kernel, by decide +kernel, by decide +kernel⟩
set_option maxRecDepth 10000 in
theorem mp_11 : MP 11 2 := ⟨(tb_4 _ (List.mem_of_getElem? (i := 217) rfl)), (tb_1 _ (List.mem_of_getElem? (i := 1) rfl)), by decide +kernel, by decide +kernel, by decide +kernel, by decide +kernel⟩
set_option maxRecDepth 10000 in
theorem mp_12 : MP 12 3 := ⟨(tb_4 _ (List.mem_of_getElem? (i := 221) rfl)), (tb_1 _ (List.mem_of_getElem? (i := 1) rfl)), by decide +kernel, by decide +kernel, by decide +kernel, by decide +kernel⟩
set_option maxRecDepth 10000 in
theorem mp_13 : MP 13 2 := ⟨(tb_4 _ (List.mem_of_getElem? (i := 225) rfl)), (tb_1 _ (List.mem_of_getElem? (i := 1) rfl)), by decide +kernel, by decide +kernel, by decide +kernel, by decide +kernel⟩
set_option maxRecDepth 10000 in
theorem mp_14 : MP 14 2 := ⟨(tb_5 _ (List.mem_of_getElem? (i := 2) rfl)), (tb_1 _ (List.mem_of_getElem? (i := 1) rfl)), by decide +kernel, by decide +kernel, by decide +kernel, by decide +kernel⟩
set_option maxRecDepth 10000 in
theorem mp_15 : MP 15 2 := ⟨(tb_5 _ (List.mem_of_getElem? (i := 18) rfl)), (tb_1 _ (List.mem_of_getElem? (i := 1) rfl)), by decide +kernel, by decide +kernel, by decide +kernel, by decide +kernel⟩
set_option maxRecDepth 10000 in
theorem mp_16 : MP 16 1 := ⟨(tb_5 _ (List.mem_of_getElem? (i := 36) rfl)), (tb_1 _ (List.mem_of_getElem? (i := 1) rfl)), by decide +kernel, by decide +kernel, by decide +kernel, by decide +kernel⟩
set_option maxRecDepth 10000 in
theorem mp_17 : MP 17 1 := ⟨(tb_5 _ (List.mem_of_getElem? (i := 22) rfl)), (tb_1 _ (List.mem_of_getElem? (i := 1) rfl)), by decide +kernel, by decide +kernel, by decide +kernel, by decide +kernel⟩
set_option maxRecDepth 10000 in
theorem mp_18 : MP 18 1 := ⟨(tb_5 _ (List.mem_of_getElem? (i := 46) rfl)), (tb_1 _ (List.mem_of_getElem? (i := 1) rfl)), by decide +kernel, by decide +kernel, by decide +kernel, by decide +kernel⟩
set_option maxRecDepth 10000 in
theorem mp_19 : MP 19 1 := ⟨(tb_5 _ (List.mem_of_getElem? (i := 59) rfl)), (tb_1 _ (List.mem_of_getElem? (i := 1) rfl)), by decide +kernel, by decide +kernel, by decide +kernel, by decide +kernel⟩
set_option maxRecDepth 10000 in
theorem mp_20 : MP 20 0 := ⟨(tb_5 _ (List.mem_of_getElem? (i := 84) rfl)), (tb_1 _ (List.mem_of_getElem? (i := 1) rfl)), by decide +kernel, by decide +kernel, by decide +kernel, by decide +kernel⟩
set_option maxRecDepth 10000 in
theorem mp_21 : MP 21 1 := ⟨(tb_5 _ (List.mem_of_getElem? (i := 88) rfl)), (tb_1 _ (List.mem_of_getElem? (i := 1) rfl)), by decide +kernel, by decide +kernel, by decide +kernel, by decide +kernel⟩
set_option maxRecDepth 10000 in
theorem mp_22 : MP 22 2 := ⟨(tb_5 _ (List.mem_of_getElem? (i := 94) rfl)), (tb_1 _ (List.mem_of_getElem? (i := 1) rfl)), by decide +kernel, by decide +kernel, by decide +kernel, by decide +kernel⟩
set_option maxRecDepth 10000 in
theorem mp_23 : MP 23 2 := ⟨(tb_5 _ (List.mem_of_getElem? (i := 98) rfl)), (tb_1 _ (List.mem_of_getElem? (i := 1) rfl)), by decide +kernel, by decide +kernel, by decide +kernel, by decide +kernel⟩
set_option maxRecDepth 10000 in
theorem mp_24 : MP 24 0 := ⟨(tb_5 _ (List.mem_of_getElem? (i := 106) rfl)), (tb_1 _ (List.mem_of_getElem? (i := 1) rfl)), by decide +kernel, by decide +kernel, by decide +kernel, by decide +kernel⟩
set_option maxRecDepth 10000 in
theorem mp_25 : MP 25 2 := ⟨(tb_5 _ (List.mem_of_getElem? (i := 114) rfl)), (tb_1 _ (List.mem_of_getElem? (i := 1) rfl)), by decide +kernel, by decide +kernel, by decide +kernel, by decide +kernel⟩
set_option maxRecDepth 10000 in
theorem mp_26 : MP 26 1 := ⟨(tb_5 _ (List.mem_of_getElem? (i := 122) rfl)), (tb_1 _ (List.mem_of_getElem? (i := 1) rfl)), by decide +kernel, by decide +kernel, by decide +kernel, by decide +kernel⟩
set_option maxRecDepth 10000 in
theorem mp_27 : MP 27 1 := ⟨(tb_5 _ (List.mem_of_getElem? (i := 126) rfl)), (tb_1 _ (List.mem_of_getElem? (i := 1) rfl)), by decide +kernel, by decide +kernel, by decide +kernel, by decide +kernel⟩
set_option maxRecDepth 10000 in
theorem mp_28 : MP 28 0 := ⟨(tb_5 _ (List.mem_of_getElem? (i := 130) rfl)), (tb_1 _ (List.mem_of_getElem? (i := 1) rfl)), by decide +kernel, by decide +kernel, by decide +kernel, by decide +kernel⟩
set_option maxRecDepth 10000 in
theorem mp_29 : MP 29 0 := ⟨(tb_5 _ (List.mem_of_getElem? (i := 155) rfl)), (tb_1 _ (List.mem_of_getElem? (i := 1) rfl)), by decide +kernel, by decide +kernel, by decide +kernel, by decide +kernel⟩
set_option maxRecDepth 10000 in
theorem mp_30 : MP 30 0 := ⟨(tb_5 _ (List.mem_of_getElem? (i := 159) rfl)), (tb_1 _ (List.mem_of_getElem? (i := 1) rfl)), by decide +kernel, by decide +kernel, by decide +kernel, by decide +kernel⟩
set_option maxRecDepth 10000 in
theorem mp_31 : MP 31 0 := ⟨(tb_5 _ (List.mem_of_getElem? (i := 163) rfl)), (tb_1 _ (List.mem_of_getElem? (i := 1) rfl)), by decide +kernel, by decide +kernel, by decide +kernel, by decide +kernel⟩
set_option maxRecDepth 10000 in
theorem mp_32 : MP 32 1 := ⟨(tb_5 _ (List.mem_of_getElem? (i := 167) rfl)), (tb_1 _ (List.mem_of_getElem? (i := 1) rfl)), by decide +kernel, by decide +kernel, by decide +kernel, by decide +kernel⟩
set_option maxRecDepth 10000 in
theorem mp_33 : MP 33 0 := ⟨(tb_1 _ (List.mem_of_getElem? (i := 39) rfl)), (tb_1 _ (List.mem_of_getElem? (i := 2) rfl)), by decide +kernel, by decide +kernel, by decide +kernel, by decide +kernel⟩
set_option maxRecDepth 10000 in
theorem mp_34 : MP 34 3 := ⟨(tb_3 _ (List.mem_of_getElem? (i := 27) rfl)), (tb_1 _ (List.mem_of_getElem? (i := 2) rfl)), by decide +kernel, by decide +kernel, by decide +kernel, by decide +kernel⟩
set_option maxRecDepth 10000 in
theorem mp_35 : MP 35 1 := ⟨(tb_3 _ (List.mem_of_getElem? (i := 165) rfl)), (tb_1 _ (List.mem_of_getElem? (i := 2) rfl)), by decide +kernel, by decide +kernel, by decide +kernel, by decide +kernel⟩
set_option maxRecDepth 10000 in
theorem mp_36 : MP 36 0 := ⟨(tb_3 _ (List.mem_of_getElem? (i := 161) rfl)), (tb_1 _ (List.mem_of_getElem? (i := 2) rfl)), by decide +kernel, by decide +kernel, by decide +kernel, by decide +kernel⟩
set_option maxRecDepth 10000 in
theorem mp_37 : MP 37 0 := ⟨(tb_3 _ (List.mem_of_getElem? (i := 188) rfl)), (tb_1 _ (List.mem_of_getElem? (i := 2) rfl)), by decide +kernel, by decide +kernel, by decide +kernel, by decide +kernel⟩
set_option maxRecDepth 10000 in
theorem mp_38 : MP 38 1 := ⟨(tb_3 _ (List.mem_of_getElem? (i := 174) rfl)), (tb_1 _ (List.mem_of_getElem? (i := 2) rfl)), by decide +kernel, by decide +kernel, by decide +kernel, by decide +kernel⟩
set_option maxRecDepth 10000 in
theorem mp_39 : MP 39 2 := ⟨(tb_3 _ (List.mem_of_getElem? (i := 179) rfl)), (tb_1 _ (List.mem_of_getElem? (i := 2) rfl)), by decide +kernel, by decide +kernel, by decide +kernel, by decide +kernel⟩
set_option maxRecDepth 10000 in
theorem mp_40 : MP 40 0 := ⟨(tb_3 _ (List.mem_of_getElem? (i := 204) rfl)), (tb_1 _ (List.mem_of_getElem? (i := 2) rfl)), by decide +kernel, by decide +kernel, by decide +kernel, by decide +kernel⟩
set_option maxRecDepth 10000 in
theorem mp_41 : MP 41 0 := ⟨(tb_3 _ (List.mem_of_getElem? (i := 216) rfl)), (tb_1 _ (List.mem_of_getElem? (i := 2) rfl)), by decide +kernel, by decide +kernel, by decide +kernel, by decide +kernel⟩
set_option maxRecDepth 10000 in
theorem mp_42 : MP 42 1 := ⟨(tb_3 _ (List.mem_of_getElem? (i := 208) rfl)), (tb_1 _ (List.mem_of_getElem? (i := 2) rfl)), by decide +kernel, by decide +kernel, by decide +kernel, by decide +kernel⟩
set_option maxRecDepth 10000 in
theorem mp_43 : MP 43 0 := ⟨(tb_3 _ (List.mem_of_getElem? (i := 200) rfl)), (tb_1 _ (List.mem_of_getElem? (i := 2) rfl)), by decide +kernel, by decide +kernel, by decide +kernel, by decide +kernel⟩
set_option maxRecDepth 10000 in
theorem mp_44 : MP 44 0 := ⟨(tb_3 _ (List.mem_of_getElem? (i := 232) rfl)), (tb_1 _ (List.mem_of_getElem? (i := 2) rfl)), by decide +kernel, by decide +kernel, by decide +kernel, by decide +kernel⟩
set_option maxRecDepth 10000 in
theorem mp_45 : MP 45 0 := ⟨(tb_4 _ (List.mem_of_getElem? (i := 0) rfl)), (tb_1 _ (List.mem_of_getElem? (i := 2) rfl)), by decide +kernel, by decide +kernel, by decide +kernel, by decide +kernel⟩
set_option maxRecDepth 10000 in
theorem mp_46 : MP 46 0 := ⟨(tb_4 _ (List.mem_of_getElem? (i := 4) rfl)), (tb_1 _ (List.mem_of_getElem? (i := 2) rfl)), by decide +kernel, by decide +kernel, by decide +kernel, by decide +kernel⟩
set_option maxRecDepth 10000 in
theorem mp_47 : MP 47 0 := ⟨(tb_4 _ (List.mem_of_getElem? (i := 8) rfl)), (tb_1 _ (List.mem_of_getElem? (i := 2) rfl)), by decide +kernel, by decide +kernel, by decide +kernel, by decide +kernel⟩
set_option maxRecDepth 10000 in
theorem mp_48 : MP 48 0 := ⟨(tb_4 _ (List.mem_of_getElem? (i := 12) rfl)), (tb_1 _ (List.mem_of_getElem? (i := 2) rfl)), by decide +kernel, by decide +kernel, by decide +kernel, by decide +kernel⟩
set_option maxRecDepth 10000 in
theorem mp_49 : MP 49 1 := ⟨(tb_4 _ (List.mem_of_getElem? (i := 16) rfl)), (tb_1 _ (List.mem_of_getElem? (i := 2) rfl)), by decide +kernel, by decide +kernel, by decide +kernel, by decide +kernel⟩
set_option maxRecDepth 10000 in
theorem mp_50 : MP 50 1 := ⟨(tb_4 _ (List.mem_of_getElem? (i := 20) rfl)), (tb_1 _ (List.mem_of_getElem? (i := 2) rfl)), by decide +kernel, by decide +kernel, by decide +kernel, by decide +kernel⟩
set_option maxRecDepth 10000 in
theorem mp_51 : MP 51 1 := ⟨(tb_4 _ (List.mem_of_getElem? (i := 43) rfl)), (tb_1 _ (List.mem_of_getElem? (i := 2) rfl)), by decide +kernel, by decide +kernel, by decide +kernel, by decide +kernel⟩
set_option maxRecDepth 10000 in
theorem mp_52 : MP 52 0 := ⟨(tb_4 _ (List.mem_of_getElem? (i := 35) rfl)), (tb_1 _ (List.mem_of_getElem? (i := 2) rfl)), by decide +kernel, by decide +kernel, by decide +kernel, by decide +kernel⟩
set_option maxRecDepth 10000 in
theorem mp_53 : MP 53 1 := ⟨(tb_4 _ (List.mem_of_getElem? (i := 25) rfl)), (tb_1 _ (List.mem_of_getElem? (i := 2) rfl)), by decide +kernel, by decide +kernel, by decide +kernel, by decide +kernel⟩
set_option maxRecDepth 10000 in
theorem mp_54 : MP 54 0 := ⟨(tb_4 _ (List.mem_of_getElem? (i := 31) rfl)), (tb_1 _ (List.mem_of_getElem? (i := 2) rfl)), by decide +kernel, by decide +kernel, by decide +kernel, by decide +kernel⟩
set_option maxRecDepth 10000 in
theorem mp_55 : MP 55 2 := ⟨(tb_4 _ (List.mem_of_getElem? (i := 47) rfl)), (tb_1 _ (List.mem_of_getElem? (i := 2) rfl)), by decide +kernel, by decide +kernel, by decide +kernel, by decide +kernel⟩
set_option maxRecDepth 10000 in
theorem mp_56 : MP 56 0 := ⟨(tb_1 _ (List.mem_of_getElem? (i := 45) rfl)), (tb_1 _ (List.mem_of_getElem? (i := 3) rfl)), by decide +kernel, by decide +kernel, by decide +kernel, by decide +kernel⟩
set_option maxRecDepth 10000 in
theorem mp_57 : MP 57 2 := ⟨(tb_3 _ (List.mem_of_getElem? (i := 35) rfl)), (tb_1 _ (List.mem_of_getElem? (i := 3) rfl)), by decide +kernel, by decide +kernel, by decide +kernel, by decide +kernel⟩
set_option maxRecDepth 10000 in
theorem mp_58 : MP 58 0 := ⟨(tb_3 _ (List.mem_of_getElem? (i := 45) rfl)), (tb_1 _ (List.mem_of_getElem? (i := 3) rfl)), by decide +kernel, by decide +kernel, by decide +kernel, by decide +kernel⟩
set_option maxRecDepth 10000 in
theorem mp_59 : MP 59 0 := ⟨(tb_3 _ (List.mem_of_getElem? (i := 49) rfl)), (tb_1 _ (List.mem_of_getElem? (i := 3) rfl)), by decide +kernel, by decide +kernel, by decide +kernel, by decide +kernel⟩
set_option maxRecDepth 10000 in
theorem mp_60 : MP 60 1 := ⟨(tb_3 _ (List.mem_of_getElem? (i := 55) rfl)), (tb_1 _ (List.mem_of_getElem? (i := 3) rfl)), by decide +kernel, by decide +kernel, by decide +kernel, by decide +kernel⟩
set_option maxRecDepth 10000 in
theorem mp_61 : MP 61 0 := ⟨(tb_3 _ (List.mem_of_getElem? (i := 111) rfl)), (tb_1 _ (List.mem_of_getElem? (i := 3) rfl)), by decide +kernel, by decide +kernel, by decide +kernel, by decide +kernel⟩
set_option maxRecDepth 10000 in
theorem mp_62 : MP 62 0 := ⟨(tb_3 _ (List.mem_of_getElem? (i := 118) rfl)), (tb_1 _ (List.mem_of_getElem? (i := 3) rfl)), by decide +kernel, by decide +kernel, by decide +kernel, by decide +kernel⟩
set_option maxRecDepth 10000 in
theorem mp_63 : MP 63 1 := ⟨(tb_3 _ (List.mem_of_getElem? (i := 138) rfl)), (tb_1 _ (List.mem_of_getElem? (i := 3) rfl)), by decide +kernel, by decide +kernel, by decide +kernel, by decide +kernel⟩
set_option maxRecDepth 10000 in
theorem mp_64 : MP 64 0 := ⟨(tb_1 _ (List.mem_of_getElem? (i := 80) rfl)), (tb_1 _ (List.mem_of_getElem? (i := 6) rfl)), by decide +kernel, by decide +kernel, by decide +kernel, by decide +kernel⟩
set_option maxRecDepth 10000 in
theorem mp_65 : MP 65 0 := ⟨(tb_3 _ (List.mem_of_getElem? (i := 31) rfl)), (tb_1 _ (List.mem_of_getElem? (i := 6) rfl)), by decide +kernel, by decide +kernel, by decide +kernel, by decide +kernel⟩
set_option maxRecDepth 10000 in
theorem mp_66 : MP 66 1 := ⟨(tb_3 _ (List.mem_of_getElem? (i := 220) rfl)), (tb_1 _ (List.mem_of_getElem? (i := 6) rfl)), by decide +kernel, by decide +kernel, by decide +kernel, by decide +kernel⟩
set_option maxRecDepth 10000 in
theorem mp_67 : MP 67 1 := ⟨(tb_3 _ (List.mem_of_getElem? (i := 212) rfl)), (tb_1 _ (List.mem_of_getElem? (i := 6) rfl)), by decide +kernel, by decide +kernel, by decide +kernel, by decide +kernel⟩
set_option maxRecDepth 10000 in
theorem mp_68 : MP 68 1 := ⟨(tb_4 _ (List.mem_of_getElem? (i := 80) rfl)), (tb_1 _ (List.mem_of_getElem? (i := 6) rfl)), by decide +kernel, by decide +kernel, by decide +kernel, by decide +kernel⟩
set_option maxRecDepth 10000 in
theorem mp_69 : MP 69 1 := ⟨(tb_4 _ (List.mem_of_getElem? (i := 183) rfl)), (tb_1 _ (List.mem_of_getElem? (i := 6) rfl)), by decide +kernel, by decide +kernel, by decide +kernel, by decide +kernel⟩
set_option maxRecDepth 10000 in
theorem mp_70 : MP 70 1 := ⟨(tb_3 _ (List.mem_of_getElem? (i := 170) rfl)), (tb_1 _ (List.mem_of_getElem? (i := 6) rfl)), by decide +kernel, by decide +kernel, by decide +kernel, by decide +kernel⟩
set_option maxRecDepth 10000 in
theorem mp_71 : MP 71 1 := ⟨(tb_3 _ (List.mem_of_getElem? (i := 192) rfl)), (tb_1 _ (List.mem_of_getElem? (i := 6) rfl)), by decide +kernel, by decide +kernel, by decide +kernel, by decide +kernel⟩
set_option maxRecDepth 10000 in
theorem mp_72 : MP 72 2 := ⟨(tb_3 _ (List.mem_of_getElem? (i := 224) rfl)), (tb_1 _ (List.mem_of_getElem? (i := 6) rfl)), by decide +kernel, by decide +kernel, by decide +kernel, by decide +kernel⟩
set_option maxRecDepth 10000 in
theorem mp_73 : MP 73 3 := ⟨(tb_3 _ (List.mem_of_getElem? (i := 184) rfl)), (tb_1 _ (List.mem_of_getElem? (i := 6) rfl)), by decide +kernel, by decide +kernel, by decide +kernel, by decide +kernel⟩
set_option maxRecDepth 10000 in
theorem mp_74 : MP 74 3 := ⟨(tb_3 _ (List.mem_of_getElem? (i := 196) rfl)), (tb_1 _ (List.mem_of_getElem? (i := 6) rfl)), by decide +kernel, by decide +kernel, by decide +kernel, by decide +kernel⟩
set_option maxRecDepth 10000 in
theorem mp_75 : MP 75 3 := ⟨(tb_3 _ (List.mem_of_getElem? (i := 228) rfl)), (tb_1 _ (List.mem_of_getElem? (i := 6) rfl)), by decide +kernel, by decide +kernel, by decide +kernel, by decide +kernel⟩
set_option maxRecDepth 10000 in
theorem mp_76 : MP 76 3 := ⟨(tb_3 _ (List.mem_of_getElem? (i := 236) rfl)), (tb_1 _ (List.mem_of_getElem? (i := 6) rfl)), by decide +kernel, by decide +kernel, by decide +kernel, by decide +kernel⟩
set_option maxRecDepth 10000 in
theorem mp_77 : MP 77 1 := ⟨(tb_4 _ (List.mem_of_getElem? (i := 95) rfl)), (tb_1 _ (List.mem_of_getElem? (i := 6) rfl)), by decide +kernel, by decide +kernel, by decide +kernel, by decide +kernel⟩
set_option maxRecDepth 10000 in
theorem mp_78 : MP 78 1 := ⟨(tb_4 _ (List.mem_of_getElem? (i := 101) rfl)), (tb_1 _ (List.mem_of_getElem? (i := 6) rfl)), by decide +kernel, by decide +kernel, by decide +kernel, by decide +kernel⟩
set_option maxRecDepth 10000 in
theorem mp_79 : MP 79 0 := ⟨(tb_5 _ (List.mem_of_getElem? (i := 171) rfl)), (tb_1 _ (List.mem_of_getElem? (i := 6) rfl)), by decide +kernel, by decide +kernel, by decide +kernel, by decide +kernel⟩
set_option maxRecDepth 10000 in
theorem mp_80 : MP 80 0 := ⟨(tb_1 _ (List.mem_of_getElem? (i := 89) rfl)), (tb_1 _ (List.mem_of_getElem? (i := 7) rfl)), by decide +kernel, by decide +kernel, by decide +kernel, by decide +kernel⟩
set_option maxRecDepth 10000 in
theorem mp_81 : MP 81 2 := ⟨(tb_4 _ (List.mem_of_getElem? (i := 39) rfl)), (tb_1 _ (List.mem_of_getElem? (i := 7) rfl)), by decide +kernel, by decide +kernel, by decide +kernel, by decide +kernel⟩
set_option maxRecDepth 10000 in
theorem mp_82 : MP 82 1 := ⟨(tb_4 _ (List.mem_of_getElem? (i := 110) rfl)), (tb_1 _ (List.mem_of_getElem? (i := 7) rfl)), by decide +kernel, by decide +kernel, by decide +kernel, by decide +kernel⟩
set_option maxRecDepth 10000 in
theorem mp_83 : MP 83 3 := ⟨(tb_4 _ (List.mem_of_getElem? (i := 115) rfl)), (tb_1 _ (List.mem_of_getElem? (i := 7) rfl)), by decide +kernel, by decide +kernel, by decide +kernel, by decide +kernel⟩
set_option maxRecDepth 10000 in
theorem mp_84 : MP 84 1 := ⟨(tb_2 _ (List.mem_of_getElem? (i := 10) rfl)), (tb_1 _ (List.mem_of_getElem? (i := 8) rfl)), by decide +kernel, by decide +kernel, by decide +kernel, by decide +kernel⟩
set_option maxRecDepth 10000 in
theorem mp_85 : MP 85 1 := ⟨(tb_4 _ (List.mem_of_getElem? (i := 54) rfl)), (tb_1 _ (List.mem_of_getElem? (i := 8) rfl)), by decide +kernel, by decide +kernel, by decide +kernel, by decide +kernel⟩
set_option maxRecDepth 10000 in
theorem mp_86 : MP 86 1 := ⟨(tb_4 _ (List.mem_of_getElem? (i := 231) rfl)), (tb_1 _ (List.mem_of_getElem? (i := 8) rfl)), by decide +kernel, by decide +kernel, by decide +kernel, by decide +kernel⟩
set_option maxRecDepth 10000 in
theorem mp_87 : MP 87 1 := ⟨(tb_4 _ (List.mem_of_getElem? (i := 165) rfl)), (tb_1 _ (List.mem_of_getElem? (i := 8) rfl)), by decide +kernel, by decide +kernel, by decide +kernel, by decide +kernel⟩
set_option maxRecDepth 10000 in
theorem mp_88 : MP 88 1 := ⟨(tb_4 _ (List.mem_of_getElem? (i := 134) rfl)), (tb_1 _ (List.mem_of_getElem? (i := 8) rfl)), by decide +kernel, by decide +kernel, by decide +kernel, by decide +kernel⟩
set_option maxRecDepth 10000 in
theorem mp_89 : MP 89 1 := ⟨(tb_4 _ (List.mem_of_getElem? (i := 138) rfl)), (tb_1 _ (List.mem_of_getElem? (i := 8) rfl)), by decide +kernel, by decide +kernel, by decide +kernel, by decide +kernel⟩
set_option maxRecDepth 10000 in
theorem mp_90 : MP 90 1 := ⟨(tb_4 _ (List.mem_of_getElem? (i := 142) rfl)), (tb_1 _ (List.mem_of_getElem? (i := 8) rfl)), by decide +kernel, by decide +kernel, by decide +kernel, by decide +kernel⟩
set_option maxRecDepth 10000 in
theorem mp_91 : MP 91 1 := ⟨(tb_4 _ (List.mem_of_getElem? (i := 195) rfl)), (tb_1 _ (List.mem_of_getElem? (i := 8) rfl)), by decide +kernel, by decide +kernel, by decide +kernel, by decide +kernel⟩
set_option maxRecDepth 10000 in
theorem mp_92 : MP 92 1 := ⟨(tb_4 _ (List.mem_of_getElem? (i := 130) rfl)), (tb_1 _ (List.mem_of_getElem? (i := 8) rfl)), by decide +kernel, by decide +kernel, by decide +kernel, by decide +kernel⟩
set_option maxRecDepth 10000 in
theorem mp_93 : MP 93 1 := ⟨(tb_4 _ (List.mem_of_getElem? (i := 84) rfl)), (tb_1 _ (List.mem_of_getElem? (i := 8) rfl)), by decide +kernel, by decide +kernel, by decide +kernel, by decide +kernel⟩
set_option maxRecDepth 10000 in
theorem mp_94 : MP 94 1 := ⟨(tb_4 _ (List.mem_of_getElem? (i := 200) rfl)), (tb_1 _ (List.mem_of_getElem? (i := 8) rfl)), by decide +kernel, by decide +kernel, by decide +kernel, by decide +kernel⟩
set_option maxRecDepth 10000 in
theorem mp_95 : MP 95 2 := ⟨(tb_5 _ (List.mem_of_getElem? (i := 32) rfl)), (tb_1 _ (List.mem_of_getElem? (i := 8) rfl)), by decide +kernel, by decide +kernel, by decide +kernel, by decide +kernel⟩
set_option maxRecDepth 10000 in
theorem mp_96 : MP 96 3 := ⟨(tb_4 _ (List.mem_of_getElem? (i := 88) rfl)), (tb_1 _ (List.mem_of_getElem? (i := 8) rfl)), by decide +kernel, by decide +kernel, by decide +kernel, by decide +kernel⟩
set_option maxRecDepth 10000 in
theorem mp_97 : MP 97 1 := ⟨(tb_4 _ (List.mem_of_getElem? (i := 105) rfl)), (tb_1 _ (List.mem_of_getElem? (i := 8) rfl)), by decide +kernel, by decide +kernel, by decide +kernel, by decide +kernel⟩
set_option maxRecDepth 10000 in
theorem mp_98 : MP 98 2 := ⟨(tb_5 _ (List.mem_of_getElem? (i := 71) rfl)), (tb_1 _ (List.mem_of_getElem? (i := 8) rfl)), by decide +kernel, by decide +kernel, by decide +kernel, by decide +kernel⟩
set_option maxRecDepth 10000 in
theorem mp_99 : MP 99 1 := ⟨(tb_5 _ (List.mem_of_getElem? (i := 143) rfl)), (tb_1 _ (List.mem_of_getElem? (i := 8) rfl)), by decide +kernel, by decide +kernel, by decide +kernel, by decide +kernel⟩
set_option maxRecDepth 10000 in
theorem mp_100 : MP 100 3 := ⟨(tb_5 _ (List.mem_of_getElem? (i := 147) rfl)), (tb_1 _ (List.mem_of_getElem? (i := 8) rfl)), by decide +kernel, by decide +kernel, by decide +kernel, by decide +kernel⟩
set_option maxRecDepth 10000 in
theorem mp_101 : MP 101 1 := ⟨(tb_4 _ (List.mem_of_getElem? (i := 204) rfl)), (tb_1 _ (List.mem_of_getElem? (i := 8) rfl)), by decide +kernel, by decide +kernel, by decide +kernel, by decide +kernel⟩
set_option maxRecDepth 10000 in
theorem mp_102 : MP 102 2 := ⟨(tb_4 _ (List.mem_of_getElem? (i := 208) rfl)), (tb_1 _ (List.mem_of_getElem? (i := 8) rfl)), by decide +kernel, by decide +kernel, by decide +kernel, by decide +kernel⟩
set_option maxRecDepth 10000 in
theorem mp_103 : MP 103 2 := ⟨(tb_5 _ (List.mem_of_getElem? (i := 102) rfl)), (tb_1 _ (List.mem_of_getElem? (i := 8) rfl)), by decide +kernel, by decide +kernel, by decide +kernel, by decide +kernel⟩
set_option maxRecDepth 10000 in
theorem mp_104 : MP 104 1 := ⟨(tb_5 _ (List.mem_of_getElem? (i := 51) rfl)), (tb_1 _ (List.mem_of_getElem? (i := 8) rfl)), by decide +kernel, by decide +kernel, by decide +kernel, by decide +kernel⟩
set_option maxRecDepth 10000 in
theorem mp_105 : MP 105 1 := ⟨(tb_5 _ (List.mem_of_getElem? (i := 55) rfl)), (tb_1 _ (List.mem_of_getElem? (i := 8) rfl)), by decide +kernel, by decide +kernel, by decide +kernel, by decide +kernel⟩
set_option maxRecDepth 10000 in
theorem mp_106 : MP 106 0 := ⟨(tb_4 _ (List.mem_of_getElem? (i := 238) rfl)), (tb_1 _ (List.mem_of_getElem? (i := 8) rfl)), by decide +kernel, by decide +kernel, by decide +kernel, by decide +kernel⟩
set_option maxRecDepth 10000 in
theorem mp_107 : MP 107 0 := ⟨(tb_5 _ (List.mem_of_getElem? (i := 176) rfl)), (tb_1 _ (List.mem_of_getElem? (i := 8) rfl)), by decide +kernel, by decide +kernel, by decide +kernel, by decide +kernel⟩
set_option maxRecDepth 10000 in
theorem mp_108 : MP 108 0 := ⟨(tb_2 _ (List.mem_of_getElem? (i := 98) rfl)), (tb_1 _ (List.mem_of_getElem? (i := 10) rfl)), by decide +kernel, by decide +kernel, by decide +kernel, by decide +kernel⟩
set_option maxRecDepth 10000 in
theorem mp_109 : MP 109 3 := ⟨(tb_4 _ (List.mem_of_getElem? (i := 157) rfl)), (tb_1 _ (List.mem_of_getElem? (i := 10) rfl)), by decide +kernel, by decide +kernel, by decide +kernel, by decide +kernel⟩
set_option maxRecDepth 10000 in
theorem mp_110 : MP 110 2 := ⟨(tb_4 _ (List.mem_of_getElem? (i := 161) rfl)), (tb_1 _ (List.mem_of_getElem? (i := 10) rfl)), by decide +kernel, by decide +kernel, by decide +kernel, by decide +kernel⟩
set_option maxRecDepth 10000 in
theorem mp_111 : MP 111 2 := ⟨(tb_4 _ (List.mem_of_getElem? (i := 169) rfl)), (tb_1 _ (List.mem_of_getElem? (i := 10) rfl)), by decide +kernel, by decide +kernel, by decide +kernel, by decide +kernel⟩
set_option maxRecDepth 10000 in
theorem mp_112 : MP 112 4 := ⟨(tb_4 _ (List.mem_of_getElem? (i := 179) rfl)), (tb_1 _ (List.mem_of_getElem? (i := 10) rfl)), by decide +kernel, by decide +kernel, by decide +kernel, by decide +kernel⟩
set_option maxRecDepth 10000 in
theorem mp_113 : MP 113 3 := ⟨(tb_4 _ (List.mem_of_getElem? (i := 187) rfl)), (tb_1 _ (List.mem_of_getElem? (i := 10) rfl)), by decide +kernel, by decide +kernel, by decide +kernel, by decide +kernel⟩
set_option maxRecDepth 10000 in
theorem mp_114 : MP 114 4 := ⟨(tb_4 _ (List.mem_of_getElem? (i := 191) rfl)), (tb_1 _ (List.mem_of_getElem? (i := 10) rfl)), by decide +kernel, by decide +kernel, by decide +kernel, by decide +kernel⟩
set_option maxRecDepth 10000 in
theorem mp_115 : MP 115 1 := ⟨(tb_4 _ (List.mem_of_getElem? (i := 212) rfl)), (tb_1 _ (List.mem_of_getElem? (i := 10) rfl)), by decide +kernel, by decide +kernel, by decide +kernel, by decide +kernel⟩
set_option maxRecDepth 10000 in
theorem mp_116 : MP 116 2 := ⟨(tb_5 _ (List.mem_of_getElem? (i := 6) rfl)), (tb_1 _ (List.mem_of_getElem? (i := 10) rfl)), by decide +kernel, by decide +kernel, by decide +kernel, by decide +kernel⟩
set_option maxRecDepth 10000 in
theorem mp_117 : MP 117 3 := ⟨(tb_5 _ (List.mem_of_getElem? (i := 14) rfl)), (tb_1 _ (List.mem_of_getElem? (i := 10) rfl)), by decide +kernel, by decide +kernel, by decide +kernel, by decide +kernel⟩
set_option maxRecDepth 10000 in
theorem mp_118 : MP 118 0 := ⟨(tb_2 _ (List.mem_of_getElem? (i := 139) rfl)), (tb_1 _ (List.mem_of_getElem? (i := 11) rfl)), by decide +kernel, by decide +kernel, by decide +kernel, by decide +kernel⟩
set_option maxRecDepth 10000 in
theorem mp_119 : MP 119 2 := ⟨(tb_5 _ (List.mem_of_getElem? (i := 26) rfl)), (tb_1 _ (List.mem_of_getElem? (i := 11) rfl)), by decide +kernel, by decide +kernel, by decide +kernel, by decide +kernel⟩
set_option maxRecDepth 10000 in
theorem mp_120 : MP 120 0 := ⟨(tb_2 _ (List.mem_of_getElem? (i := 161) rfl)), (tb_1 _ (List.mem_of_getElem? (i := 12) rfl)), by decide +kernel, by decide +kernel, by decide +kernel, by decide +kernel⟩
set_option maxRecDepth 10000 in
theorem mp_121 : MP 121 1 := ⟨(tb_5 _ (List.mem_of_getElem? (i := 63) rfl)), (tb_1 _ (List.mem_of_getElem? (i := 12) rfl)), by decide +kernel, by decide +kernel, by decide +kernel, by decide +kernel⟩
set_option maxRecDepth 10000 in
theorem mp_122 : MP 122 2 := ⟨(tb_5 _ (List.mem_of_getElem? (i := 66) rfl)), (tb_1 _ (List.mem_of_getElem? (i := 12) rfl)), by decide +kernel, by decide +kernel, by decide +kernel, by decide +kernel⟩
set_option maxRecDepth 10000 in
theorem mp_123 : MP 123 2 := ⟨(tb_5 _ (List.mem_of_getElem? (i := 75) rfl)), (tb_1 _ (List.mem_of_getElem? (i := 12) rfl)), by decide +kernel, by decide +kernel, by decide +kernel, by decide +kernel⟩
set_option maxRecDepth 10000 in
theorem mp_124 : MP 124 2 := ⟨(tb_5 _ (List.mem_of_getElem? (i := 80) rfl)), (tb_1 _ (List.mem_of_getElem? (i := 12) rfl)), by decide +kernel, by decide +kernel, by decide +kernel, by decide +kernel⟩
set_option maxRecDepth 10000 in
theorem mp_125 : MP 125 0 := ⟨(tb_2 _ (List.mem_of_getElem? (i := 183) rfl)), (tb_1 _ (List.mem_of_getElem? (i := 13) rfl)), by decide +kernel, by decide +kernel, by decide +kernel, by decide +kernel⟩
set_option maxRecDepth 10000 in
theorem mp_126 : MP 126 0 := ⟨(tb_4 _ (List.mem_of_getElem? (i := 62) rfl)), (tb_1 _ (List.mem_of_getElem? (i := 13) rfl)), by decide +kernel, by decide +kernel, by decide +kernel, by decide +kernel⟩
set_option maxRecDepth 10000 in
theorem mp_127 : MP 127 2 := ⟨(tb_5 _ (List.mem_of_getElem? (i := 118) rfl)), (tb_1 _ (List.mem_of_getElem? (i := 13) rfl)), by decide +kernel, by decide +kernel, by decide +kernel, by decide +kernel⟩
set_option maxRecDepth 10000 in
theorem mp_128 : MP 128 0 := ⟨(tb_5 _ (List.mem_of_getElem? (i := 138) rfl)), (tb_1 _ (List.mem_of_getElem? (i := 13) rfl)), by decide +kernel, by decide +kernel, by decide +kernel, by decide +kernel⟩
set_option maxRecDepth 10000 in
theorem mp_129 : MP 129 0 := ⟨(tb_5 _ (List.mem_of_getElem? (i := 134) rfl)), (tb_1 _ (List.mem_of_getElem? (i := 13) rfl)), by decide +kernel, by decide +kernel, by decide +kernel, by decide +kernel⟩
set_option maxRecDepth 10000 in
theorem mp_130 : MP 130 1 := ⟨(tb_5 _ (List.mem_of_getElem? (i := 151) rfl)), (tb_1 _ (List.mem_of_getElem? (i := 13) rfl)), by decide +kernel, by decide +kernel, by decide +kernel, by decide +kernel⟩
set_option maxRecDepth 10000 in
theorem mp_131 : MP 131 1 := ⟨(tb_2 _ (List.mem_of_getElem? (i := 78) rfl)), (tb_1 _ (List.mem_of_getElem? (i := 9) rfl)), by decide +kernel, by decide +kernel, by decide +kernel, by decide +kernel⟩
set_option maxRecDepth 10000 in
theorem mp_132 : MP 132 0 := ⟨(tb_4 _ (List.mem_of_getElem? (i := 58) rfl)), (tb_1 _ (List.mem_of_getElem? (i := 9) rfl)), by decide +kernel, by decide +kernel, by decide +kernel, by decide +kernel⟩
set_option maxRecDepth 10000 in
theorem mp_133 : MP 133 1 := ⟨(tb_5 _ (List.mem_of_getElem? (i := 40) rfl)), (tb_1 _ (List.mem_of_getElem? (i := 9) rfl)), by decide +kernel, by decide +kernel, by decide +kernel, by decide +kernel⟩
set_option maxRecDepth 10000 in
theorem mp_134 : MP 134 1 := ⟨(tb_5 _ (List.mem_of_getElem? (i := 110) rfl)), (tb_1 _ (List.mem_of_getElem? (i := 9) rfl)), by decide +kernel, by decide +kernel, by decide +kernel, by decide +kernel⟩
set_option maxRecDepth 10000 in
theorem mp_135 : MP 135 0 := ⟨(tb_6 _ (List.mem_of_getElem? (i := 34) rfl)), (tb_1 _ (List.mem_of_getElem? (i := 14) rfl)), by decide +kernel, by decide +kernel, by decide +kernel, by decide +kernel⟩
set_option maxRecDepth 10000 in
theorem mp_136 : MP 136 0 := ⟨(tb_7 _ (List.mem_of_getElem? (i := 23) rfl)), (tb_1 _ (List.mem_of_getElem? (i := 14) rfl)), by decide +kernel, by decide +kernel, by decide +kernel, by decide +kernel⟩
set_option maxRecDepth 10000 in
theorem mp_137 : MP 137 5 := ⟨(tb_7 _ (List.mem_of_getElem? (i := 27) rfl)), (tb_1 _ (List.mem_of_getElem? (i := 14) rfl)), by decide +kernel, by decide +kernel, by decide +kernel, by decide +kernel⟩
set_option maxRecDepth 10000 in
theorem mp_138 : MP 138 0 := ⟨(tb_7 _ (List.mem_of_getElem? (i := 39) rfl)), (tb_1 _ (List.mem_of_getElem? (i := 14) rfl)), by decide +kernel, by decide +kernel, by decide +kernel, by decide +kernel⟩
set_option maxRecDepth 10000 in
theorem mp_139 : MP 139 1 := ⟨(tb_7 _ (List.mem_of_getElem? (i := 42) rfl)), (tb_1 _ (List.mem_of_getElem? (i := 14) rfl)), by decide +kernel, by decide +kernel, by decide +kernel, by decide +kernel⟩
set_option maxRecDepth 10000 in
theorem mp_140 : MP 140 1 := ⟨(tb_7 _ (List.mem_of_getElem? (i := 56) rfl)), (tb_1 _ (List.mem_of_getElem? (i := 14) rfl)), by decide +kernel, by decide +kernel, by decide +kernel, by decide +kernel⟩
set_option maxRecDepth 10000 in
theorem mp_141 : MP 141 0 := ⟨(tb_7 _ (List.mem_of_getElem? (i := 35) rfl)), (tb_1 _ (List.mem_of_getElem? (i := 14) rfl)), by decide +kernel, by decide +kernel, by decide +kernel, by decide +kernel⟩
set_option maxRecDepth 10000 in
theorem mp_142 : MP 142 1 := ⟨(tb_7 _ (List.mem_of_getElem? (i := 60) rfl)), (tb_1 _ (List.mem_of_getElem? (i := 14) rfl)), by decide +kernel, by decide +kernel, by decide +kernel, by decide +kernel⟩
set_option maxRecDepth 10000 in
theorem mp_143 : MP 143 0 := ⟨(tb_7 _ (List.mem_of_getElem? (i := 46) rfl)), (tb_1 _ (List.mem_of_getElem? (i := 14) rfl)), by decide +kernel, by decide +kernel, by decide +kernel, by decide +kernel⟩
set_option maxRecDepth 10000 in
theorem mp_144 : MP 144 0 := ⟨(tb_7 _ (List.mem_of_getElem? (i := 53) rfl)), (tb_1 _ (List.mem_of_getElem? (i := 14) rfl)), by decide +kernel, by decide +kernel, by decide +kernel, by decide +kernel⟩
set_option maxRecDepth 10000 in
theorem mp_145 : MP 145 1 := ⟨(tb_7 _ (List.mem_of_getElem? (i := 68) rfl)), (tb_1 _ (List.mem_of_getElem? (i := 14) rfl)), by decide +kernel, by decide +kernel, by decide +kernel, by decide +kernel⟩
set_option maxRecDepth 10000 in
theorem mp_146 : MP 146 1 := ⟨(tb_7 _ (List.mem_of_getElem? (i := 147) rfl)), (tb_1 _ (List.mem_of_getElem? (i := 14) rfl)), by decide +kernel, by decide +kernel, by decide +kernel, by decide +kernel⟩
set_option maxRecDepth 10000 in
theorem mp_147 : MP 147 1 := ⟨(tb_7 _ (List.mem_of_getElem? (i := 171) rfl)), (tb_1 _ (List.mem_of_getElem? (i := 14) rfl)), by decide +kernel, by decide +kernel, by decide +kernel, by decide +kernel⟩
set_option maxRecDepth 10000 in
theorem mp_148 : MP 148 0 := ⟨(tb_7 _ (List.mem_of_getElem? (i := 107) rfl)), (tb_1 _ (List.mem_of_getElem? (i := 14) rfl)), by decide +kernel, by decide +kernel, by decide +kernel, by decide +kernel⟩
set_option maxRecDepth 10000 in
theorem mp_149 : MP 149 2 := ⟨(tb_7 _ (List.mem_of_getElem? (i := 87) rfl)), (tb_1 _ (List.mem_of_getElem? (i := 14) rfl)), by decide +kernel, by decide +kernel, by decide +kernel, by decide +kernel⟩
set_option maxRecDepth 10000 in
theorem mp_150 : MP 150 4 := ⟨(tb_7 _ (List.mem_of_getElem? (i := 83) rfl)), (tb_1 _ (List.mem_of_getElem? (i := 14) rfl)), by decide +kernel, by decide +kernel, by decide +kernel, by decide +kernel⟩
set_option maxRecDepth 10000 in
theorem mp_151 : MP 151 3 := ⟨(tb_7 _ (List.mem_of_getElem? (i := 80) rfl)), (tb_1 _ (List.mem_of_getElem? (i := 14) rfl)), by decide +kernel, by decide +kernel, by decide +kernel, by decide +kernel⟩
set_option maxRecDepth 10000 in
theorem mp_152 : MP 152 3 := ⟨(tb_7 _ (List.mem_of_getElem? (i := 103) rfl)), (tb_1 _ (List.mem_of_getElem? (i := 14) rfl)), by decide +kernel, by decide +kernel, by decide +kernel, by decide +kernel⟩
set_option maxRecDepth 10000 in
theorem mp_153 : MP 153 0 := ⟨(tb_7 _ (List.mem_of_getElem? (i := 99) rfl)), (tb_1 _ (List.mem_of_getElem? (i := 14) rfl)), by decide +kernel, by decide +kernel, by decide +kernel, by decide +kernel⟩
set_option maxRecDepth 10000 in
theorem mp_154 : MP 154 0 := ⟨(tb_7 _ (List.mem_of_getElem? (i := 111) rfl)), (tb_1 _ (List.mem_of_getElem? (i := 14) rfl)), by decide +kernel, by decide +kernel, by decide +kernel, by decide +kernel⟩
set_option maxRecDepth 10000 in
theorem mp_155 : MP 155 1 := ⟨(tb_7 _ (List.mem_of_getElem? (i := 76) rfl)), (tb_1 _ (List.mem_of_getElem? (i := 14) rfl)), by decide +kernel, by decide +kernel, by decide +kernel, by decide +kernel⟩
set_option maxRecDepth 10000 in
theorem mp_156 : MP 156 1 := ⟨(tb_7 _ (List.mem_of_getElem? (i := 91) rfl)), (tb_1 _ (List.mem_of_getElem? (i := 14) rfl)), by decide +kernel, by decide +kernel, by decide +kernel, by decide +kernel⟩
set_option maxRecDepth 10000 in
theorem mp_157 : MP 157 1 := ⟨(tb_7 _ (List.mem_of_getElem? (i := 72) rfl)), (tb_1 _ (List.mem_of_getElem? (i := 14) rfl)), by decide +kernel, by decide +kernel, by decide +kernel, by decide +kernel⟩
set_option maxRecDepth 10000 in
theorem mp_158 : MP 158 0 := ⟨(tb_7 _ (List.mem_of_getElem? (i := 64) rfl)), (tb_1 _ (List.mem_of_getElem? (i := 14) rfl)), by decide +kernel, by decide +kernel, by decide +kernel, by decide +kernel⟩
set_option maxRecDepth 10000 in
theorem mp_159 : MP 159 1 := ⟨(tb_7 _ (List.mem_of_getElem? (i := 95) rfl)), (tb_1 _ (List.mem_of_getElem? (i := 14) rfl)), by decide +kernel, by decide +kernel, by decide +kernel, by decide +kernel⟩
set_option maxRecDepth 10000 in
theorem mp_160 : MP 160 1 := ⟨(tb_7 _ (List.mem_of_getElem? (i := 115) rfl)), (tb_1 _ (List.mem_of_getElem? (i := 14) rfl)), by decide +kernel, by decide +kernel, by decide +kernel, by decide +kernel⟩
set_option maxRecDepth 10000 in
theorem mp_161 : MP 161 0 := ⟨(tb_7 _ (List.mem_of_getElem? (i := 119) rfl)), (tb_1 _ (List.mem_of_getElem? (i := 14) rfl)), by decide +kernel, by decide +kernel, by decide +kernel, by decide +kernel⟩
set_option maxRecDepth 10000 in
theorem mp_162 : MP 162 0 := ⟨(tb_7 _ (List.mem_of_getElem? (i := 123) rfl)), (tb_1 _ (List.mem_of_getElem? (i := 14) rfl)), by decide +kernel, by decide +kernel, by decide +kernel, by decide +kernel⟩
set_option maxRecDepth 10000 in
theorem mp_163 : MP 163 0 := ⟨(tb_7 _ (List.mem_of_getElem? (i := 127) rfl)), (tb_1 _ (List.mem_of_getElem? (i := 14) rfl)), by decide +kernel, by decide +kernel, by decide +kernel, by decide +kernel⟩
set_option maxRecDepth 10000 in
theorem mp_164 : MP 164 0 := ⟨(tb_7 _ (List.mem_of_getElem? (i := 131) rfl)), (tb_1 _ (List.mem_of_getElem? (i := 14) rfl)), by decide +kernel, by decide +kernel, by decide +kernel, by decide +kernel⟩
set_option maxRecDepth 10000 in
theorem mp_165 : MP 165 2 := ⟨(tb_7 _ (List.mem_of_getElem? (i := 155) rfl)), (tb_1 _ (List.mem_of_getElem? (i := 14) rfl)), by decide +kernel, by decide +kernel, by decide +kernel, by decide +kernel⟩
set_option maxRecDepth 10000 in
theorem mp_166 : MP 166 0 := ⟨(tb_7 _ (List.mem_of_getElem? (i := 151) rfl)), (tb_1 _ (List.mem_of_getElem? (i := 14) rfl)), by decide +kernel, by decide +kernel, by decide +kernel, by decide +kernel⟩
set_option maxRecDepth 10000 in
theorem mp_167 : MP 167 0 := ⟨(tb_7 _ (List.mem_of_getElem? (i := 135) rfl)), (tb_1 _ (List.mem_of_getElem? (i := 14) rfl)), by decide +kernel, by decide +kernel, by decide +kernel, by decide +kernel⟩
set_option maxRecDepth 10000 in
theorem mp_168 : MP 168 0 := ⟨(tb_7 _ (List.mem_of_getElem? (i := 139) rfl)), (tb_1 _ (List.mem_of_getElem? (i := 14) rfl)), by decide +kernel, by decide +kernel, by decide +kernel, by decide +kernel⟩
set_option maxRecDepth 10000 in
theorem mp_169 : MP 169 0 := ⟨(tb_7 _ (List.mem_of_getElem? (i := 143) rfl)), (tb_1 _ (List.mem_of_getElem? (i := 14) rfl)), by decide +kernel, by decide +kernel, by decide +kernel, by decide +kernel⟩
set_option maxRecDepth 10000 in
theorem mp_170 : MP 170 0 := ⟨(tb_7 _ (List.mem_of_getElem? (i := 159) rfl)), (tb_1 _ (List.mem_of_getElem? (i := 14) rfl)), by decide +kernel, by decide +kernel, by decide +kernel, by decide +kernel⟩
set_option maxRecDepth 10000 in
theorem mp_171 : MP 171 0 := ⟨(tb_7 _ (List.mem_of_getElem? (i := 163) rfl)), (tb_1 _ (List.mem_of_getElem? (i := 14) rfl)), by decide +kernel, by decide +kernel, by decide +kernel, by decide +kernel⟩
set_option maxRecDepth 10000 in
theorem mp_172 : MP 172 0 := ⟨(tb_7 _ (List.mem_of_getElem? (i := 167) rfl)), (tb_1 _ (List.mem_of_getElem? (i := 14) rfl)), by decide +kernel, by decide +kernel, by decide +kernel, by decide +kernel⟩
set_option maxRecDepth 10000 in
theorem mp_173 : MP 173 1 := ⟨(tb_7 _ (List.mem_of_getElem? (i := 174) rfl)), (tb_1 _ (List.mem_of_getElem? (i := 14) rfl)), by decide +kernel, by decide +kernel, by decide +kernel, by decide +kernel⟩
set_option maxRecDepth 10000 in
theorem mp_174 : MP 174 1 := ⟨(tb_7 _ (List.mem_of_getElem? (i := 31) rfl)), (tb_1 _ (List.mem_of_getElem? (i := 14) rfl)), by decide +kernel, by decide +kernel, by decide +kernel, by decide +kernel⟩
set_option maxRecDepth 10000 in
theorem mp_175 : MP 175 1 := ⟨(tb_7 _ (List.mem_of_getElem? (i := 178) rfl)), (tb_1 _ (List.mem_of_getElem? (i := 14) rfl)), by decide +kernel, by decide +kernel, by decide +kernel, by decide +kernel⟩
set_option maxRecDepth 10000 in
theorem mp_176 : MP 176 2 := ⟨(tb_7 _ (List.mem_of_getElem? (i := 182) rfl)), (tb_1 _ (List.mem_of_getElem? (i := 14) rfl)), by decide +kernel, by decide +kernel, by decide +kernel, by decide +kernel⟩
set_option maxRecDepth 10000 in
theorem mp_177 : MP 177 0 := ⟨(tb_6 _ (List.mem_of_getElem? (i := 39) rfl)), (tb_1 _ (List.mem_of_getElem? (i := 14) rfl)), by decide +kernel, by decide +kernel, by decide +kernel, by decide +kernel⟩
set_option maxRecDepth 10000 in
theorem mp_178 : MP 178 2 := ⟨(tb_8 _ (List.mem_of_getElem? (i := 110) rfl)), (tb_1 _ (List.mem_of_getElem? (i := 14) rfl)), by decide +kernel, by decide +kernel, by decide +kernel, by decide +kernel⟩
set_option maxRecDepth 10000 in
theorem mp_179 : MP 179 2 := ⟨(tb_8 _ (List.mem_of_getElem? (i := 194) rfl)), (tb_1 _ (List.mem_of_getElem? (i := 14) rfl)), by decide +kernel, by decide +kernel, by decide +kernel, by decide +kernel⟩
set_option maxRecDepth 10000 in
theorem mp_180 : MP 180 1 := ⟨(tb_7 _ (List.mem_of_getElem? (i := 190) rfl)), (tb_1 _ (List.mem_of_getElem? (i := 14) rfl)), by decide +kernel, by decide +kernel, by decide +kernel, by decide +kernel⟩
set_option maxRecDepth 10000 in
theorem mp_181 : MP 181 1 := ⟨(tb_8 _ (List.mem_of_getElem? (i := 154) rfl)), (tb_1 _ (List.mem_of_getElem? (i := 14) rfl)), by decide +kernel, by decide +kernel, by decide +kernel, by decide +kernel⟩
set_option maxRecDepth 10000 in
theorem mp_182 : MP 182 1 := ⟨(tb_7 _ (List.mem_of_getElem? (i := 218) rfl)), (tb_1 _ (List.mem_of_getElem? (i := 14) rfl)), by decide +kernel, by decide +kernel, by decide +kernel, by decide +kernel⟩
set_option maxRecDepth 10000 in
theorem mp_183 : MP 183 2 := ⟨(tb_7 _ (List.mem_of_getElem? (i := 198) rfl)), (tb_1 _ (List.mem_of_getElem? (i := 14) rfl)), by decide +kernel, by decide +kernel, by decide +kernel, by decide +kernel⟩
set_option maxRecDepth 10000 in
theorem mp_184 : MP 184 2 := ⟨(tb_8 _ (List.mem_of_getElem? (i := 16) rfl)), (tb_1 _ (List.mem_of_getElem? (i := 14) rfl)), by decide +kernel, by decide +kernel, by decide +kernel, by decide +kernel⟩
set_option maxRecDepth 10000 in
theorem mp_185 : MP 185 2 := ⟨(tb_7 _ (List.mem_of_getElem? (i := 206) rfl)), (tb_1 _ (List.mem_of_getElem? (i := 14) rfl)), by decide +kernel, by decide +kernel, by decide +kernel, by decide +kernel⟩
set_option maxRecDepth 10000 in
theorem mp_186 : MP 186 2 := ⟨(tb_7 _ (List.mem_of_getElem? (i := 210) rfl)), (tb_1 _ (List.mem_of_getElem? (i := 14) rfl)), by decide +kernel, by decide +kernel, by decide +kernel, by decide +kernel⟩
set_option maxRecDepth 10000 in
theorem mp_187 : MP 187 3 := ⟨(tb_8 _ (List.mem_of_getElem? (i := 66) rfl)), (tb_1 _ (List.mem_of_getElem? (i := 14) rfl)), by decide +kernel, by decide +kernel, by decide +kernel, by decide +kernel⟩
set_option maxRecDepth 10000 in
theorem mp_188 : MP 188 0 := ⟨(tb_7 _ (List.mem_of_getElem? (i := 194) rfl)), (tb_1 _ (List.mem_of_getElem? (i := 14) rfl)), by decide +kernel, by decide +kernel, by decide +kernel, by decide +kernel⟩
set_option maxRecDepth 10000 in
theorem mp_189 : MP 189 1 := ⟨(tb_8 _ (List.mem_of_getElem? (i := 2) rfl)), (tb_1 _ (List.mem_of_getElem? (i := 14) rfl)), by decide +kernel, by decide +kernel, by decide +kernel, by decide +kernel⟩
set_option maxRecDepth 10000 in
theorem mp_190 : MP 190 1 := ⟨(tb_7 _ (List.mem_of_getElem? (i := 239) rfl)), (tb_1 _ (List.mem_of_getElem? (i := 14) rfl)), by decide +kernel, by decide +kernel, by decide +kernel, by decide +kernel⟩
set_option maxRecDepth 10000 in
theorem mp_191 : MP 191 1 := ⟨(tb_7 _ (List.mem_of_getElem? (i := 235) rfl)), (tb_1 _ (List.mem_of_getElem? (i := 14) rfl)), by decide +kernel, by decide +kernel, by decide +kernel, by decide +kernel⟩
set_option maxRecDepth 10000 in
theorem mp_192 : MP 192 1 := ⟨(tb_7 _ (List.mem_of_getElem? (i := 226) rfl)), (tb_1 _ (List.mem_of_getElem? (i := 14) rfl)), by decide +kernel, by decide +kernel, by decide +kernel, by decide +kernel⟩
set_option maxRecDepth 10000 in
theorem mp_193 : MP 193 4 := ⟨(tb_7 _ (List.mem_of_getElem? (i := 230) rfl)), (tb_1 _ (List.mem_of_getElem? (i := 14) rfl)), by decide +kernel, by decide +kernel, by decide +kernel, by decide +kernel⟩
set_option maxRecDepth 10000 in
theorem mp_194 : MP 194 3 := ⟨(tb_8 _ (List.mem_of_getElem? (i := 10) rfl)), (tb_1 _ (List.mem_of_getElem? (i := 14) rfl)), by decide +kernel, by decide +kernel, by decide +kernel, by decide +kernel⟩
set_option maxRecDepth 10000 in
theorem mp_195 : MP 195 2 := ⟨(tb_7 _ (List.mem_of_getElem? (i := 222) rfl)), (tb_1 _ (List.mem_of_getElem? (i := 14) rfl)), by decide +kernel, by decide +kernel, by decide +kernel, by decide +kernel⟩
set_option maxRecDepth 10000 in
theorem mp_196 : MP 196 2 := ⟨(tb_8 _ (List.mem_of_getElem? (i := 20) rfl)), (tb_1 _ (List.mem_of_getElem? (i := 14) rfl)), by decide +kernel, by decide +kernel, by decide +kernel, by decide +kernel⟩
set_option maxRecDepth 10000 in
theorem mp_197 : MP 197 2 := ⟨(tb_8 _ (List.mem_of_getElem? (i := 58) rfl)), (tb_1 _ (List.mem_of_getElem? (i := 14) rfl)), by decide +kernel, by decide +kernel, by decide +kernel, by decide +kernel⟩
set_option maxRecDepth 10000 in
theorem mp_198 : MP 198 2 := ⟨(tb_8 _ (List.mem_of_getElem? (i := 54) rfl)), (tb_1 _ (List.mem_of_getElem? (i := 14) rfl)), by decide +kernel, by decide +kernel, by decide +kernel, by decide +kernel⟩
set_option maxRecDepth 10000 in
theorem mp_199 : MP 199 3 := ⟨(tb_8 _ (List.mem_of_getElem? (i := 42) rfl)), (tb_1 _ (List.mem_of_getElem? (i := 14) rfl)), by decide +kernel, by decide +kernel, by decide +kernel, by decide +kernel⟩
set_option maxRecDepth 10000 in
theorem mp_200 : MP 200 1 := ⟨(tb_8 _ (List.mem_of_getElem? (i := 37) rfl)), (tb_1 _ (List.mem_of_getElem? (i := 14) rfl)), by decide +kernel, by decide +kernel, by decide +kernel, by decide +kernel⟩
set_option maxRecDepth 10000 in
theorem mp_201 : MP 201 1 := ⟨(tb_8 _ (List.mem_of_getElem? (i := 46) rfl)), (tb_1 _ (List.mem_of_getElem? (i := 14) rfl)), by decide +kernel, by decide +kernel, by decide +kernel, by decide +kernel⟩
set_option maxRecDepth 10000 in
theorem mp_202 : MP 202 1 := ⟨(tb_8 _ (List.mem_of_getElem? (i := 50) rfl)), (tb_1 _ (List.mem_of_getElem? (i := 14) rfl)), by decide +kernel, by decide +kernel, by decide +kernel, by decide +kernel⟩
set_option maxRecDepth 10000 in
theorem mp_203 : MP 203 2 := ⟨(tb_8 _ (List.mem_of_getElem? (i := 62) rfl)), (tb_1 _ (List.mem_of_getElem? (i := 14) rfl)), by decide +kernel, by decide +kernel, by decide +kernel, by decide +kernel⟩
set_option maxRecDepth 10000 in
theorem mp_204 : MP 204 1 := ⟨(tb_8 _ (List.mem_of_getElem? (i := 33) rfl)), (tb_1 _ (List.mem_of_getElem? (i := 14) rfl)), by decide +kernel, by decide +kernel, by decide +kernel, by decide +kernel⟩
set_option maxRecDepth 10000 in
theorem mp_205 : MP 205 1 := ⟨(tb_7 _ (List.mem_of_getElem? (i := 202) rfl)), (tb_1 _ (List.mem_of_getElem? (i := 14) rfl)), by decide +kernel, by decide +kernel, by decide +kernel, by decide +kernel⟩
set_option maxRecDepth 10000 in
theorem mp_206 : MP 206 2 := ⟨(tb_7 _ (List.mem_of_getElem? (i := 186) rfl)), (tb_1 _ (List.mem_of_getElem? (i := 14) rfl)), by decide +kernel, by decide +kernel, by decide +kernel, by decide +kernel⟩
set_option maxRecDepth 10000 in
theorem mp_207 : MP 207 2 := ⟨(tb_7 _ (List.mem_of_getElem? (i := 214) rfl)), (tb_1 _ (List.mem_of_getElem? (i := 14) rfl)), by decide +kernel, by decide +kernel, by decide +kernel, by decide +kernel⟩
set_option maxRecDepth 10000 in
theorem mp_208 : MP 208 3 := ⟨(tb_8 _ (List.mem_of_getElem? (i := 24) rfl)), (tb_1 _ (List.mem_of_getElem? (i := 14) rfl)), by decide +kernel, by decide +kernel, by decide +kernel, by decide +kernel⟩
set_option maxRecDepth 10000 in
theorem mp_209 : MP 209 1 := ⟨(tb_8 _ (List.mem_of_getElem? (i := 29) rfl)), (tb_1 _ (List.mem_of_getElem? (i := 14) rfl)), by decide +kernel, by decide +kernel, by decide +kernel, by decide +kernel⟩
set_option maxRecDepth 10000 in
theorem mp_210 : MP 210 2 := ⟨(tb_8 _ (List.mem_of_getElem? (i := 70) rfl)), (tb_1 _ (List.mem_of_getElem? (i := 14) rfl)), by decide +kernel, by decide +kernel, by decide +kernel, by decide +kernel⟩
set_option maxRecDepth 10000 in
theorem mp_211 : MP 211 1 := ⟨(tb_8 _ (List.mem_of_getElem? (i := 78) rfl)), (tb_1 _ (List.mem_of_getElem? (i := 14) rfl)), by decide +kernel, by decide +kernel, by decide +kernel, by decide +kernel⟩
set_option maxRecDepth 10000 in
theorem mp_212 : MP 212 2 := ⟨(tb_8 _ (List.mem_of_getElem? (i := 74) rfl)), (tb_1 _ (List.mem_of_getElem? (i := 14) rfl)), by decide +kernel, by decide +kernel, by decide +kernel, by decide +kernel⟩
set_option maxRecDepth 10000 in
theorem mp_213 : MP 213 2 := ⟨(tb_8 _ (List.mem_of_getElem? (i := 98) rfl)), (tb_1 _ (List.mem_of_getElem? (i := 14) rfl)), by decide +kernel, by decide +kernel, by decide +kernel, by decide +kernel⟩
set_option maxRecDepth 10000 in
theorem mp_214 : MP 214 3 := ⟨(tb_8 _ (List.mem_of_getElem? (i := 94) rfl)), (tb_1 _ (List.mem_of_getElem? (i := 14) rfl)), by decide +kernel, by decide +kernel, by decide +kernel, by decide +kernel⟩
set_option maxRecDepth 10000 in
theorem mp_215 : MP 215 1 := ⟨(tb_8 _ (List.mem_of_getElem? (i := 90) rfl)), (tb_1 _ (List.mem_of_getElem? (i := 14) rfl)), by decide +kernel, by decide +kernel, by decide +kernel, by decide +kernel⟩
set_option maxRecDepth 10000 in
theorem mp_216 : MP 216 1 := ⟨(tb_8 _ (List.mem_of_getElem? (i := 86) rfl)), (tb_1 _ (List.mem_of_getElem? (i := 14) rfl)), by decide +kernel, by decide +kernel, by decide +kernel, by decide +kernel⟩
set_option maxRecDepth 10000 in
theorem mp_217 : MP 217 2 := ⟨(tb_8 _ (List.mem_of_getElem? (i := 82) rfl)), (tb_1 _ (List.mem_of_getElem? (i := 14) rfl)), by decide +kernel, by decide +kernel, by decide +kernel, by decide +kernel⟩
set_option maxRecDepth 10000 in
theorem mp_218 : MP 218 0 := ⟨(tb_8 _ (List.mem_of_getElem? (i := 106) rfl)), (tb_1 _ (List.mem_of_getElem? (i := 14) rfl)), by decide +kernel, by decide +kernel, by decide +kernel, by decide +kernel⟩
set_option maxRecDepth 10000 in
theorem mp_219 : MP 219 1 := ⟨(tb_8 _ (List.mem_of_getElem? (i := 102) rfl)), (tb_1 _ (List.mem_of_getElem? (i := 14) rfl)), by decide +kernel, by decide +kernel, by decide +kernel, by decide +kernel⟩
set_option maxRecDepth 10000 in
theorem mp_220 : MP 220 1 := ⟨(tb_8 _ (List.mem_of_getElem? (i := 114) rfl)), (tb_1 _ (List.mem_of_getElem? (i := 14) rfl)), by decide +kernel, by decide +kernel, by decide +kernel, by decide +kernel⟩
set_option maxRecDepth 10000 in
theorem mp_221 : MP 221 2 := ⟨(tb_8 _ (List.mem_of_getElem? (i := 130) rfl)), (tb_1 _ (List.mem_of_getElem? (i := 14) rfl)), by decide +kernel, by decide +kernel, by decide +kernel, by decide +kernel⟩
set_option maxRecDepth 10000 in
theorem mp_222 : MP 222 3 := ⟨(tb_8 _ (List.mem_of_getElem? (i := 126) rfl)), (tb_1 _ (List.mem_of_getElem? (i := 14) rfl)), by decide +kernel, by decide +kernel, by decide +kernel, by decide +kernel⟩
set_option maxRecDepth 10000 in
theorem mp_223 : MP 223 0 := ⟨(tb_8 _ (List.mem_of_getElem? (i := 122) rfl)), (tb_1 _ (List.mem_of_getElem? (i := 14) rfl)), by decide +kernel, by decide +kernel, by decide +kernel, by decide +kernel⟩
set_option maxRecDepth 10000 in
theorem mp_224 : MP 224 1 := ⟨(tb_8 _ (List.mem_of_getElem? (i := 118) rfl)), (tb_1 _ (List.mem_of_getElem? (i := 14) rfl)), by decide +kernel, by decide +kernel, by decide +kernel, by decide +kernel⟩
set_option maxRecDepth 10000 in
theorem mp_225 : MP 225 0 := ⟨(tb_8 _ (List.mem_of_getElem? (i := 134) rfl)), (tb_1 _ (List.mem_of_getElem? (i := 14) rfl)), by decide +kernel, by decide +kernel, by decide +kernel, by decide +kernel⟩
set_option maxRecDepth 10000 in
theorem mp_226 : MP 226 1 := ⟨(tb_8 _ (List.mem_of_getElem? (i := 138) rfl)), (tb_1 _ (List.mem_of_getElem? (i := 14) rfl)), by decide +kernel, by decide +kernel, by decide +kernel, by decide +kernel⟩
set_option maxRecDepth 10000 in
theorem mp_227 : MP 227 2 := ⟨(tb_8 _ (List.mem_of_getElem? (i := 142) rfl)), (tb_1 _ (List.mem_of_getElem? (i := 14) rfl)), by decide +kernel, by decide +kernel, by decide +kernel, by decide +kernel⟩
set_option maxRecDepth 10000 in
theorem mp_228 : MP 228 2 := ⟨(tb_8 _ (List.mem_of_getElem? (i := 146) rfl)), (tb_1 _ (List.mem_of_getElem? (i := 14) rfl)), by decide +kernel, by decide +kernel, by decide +kernel, by decide +kernel⟩
set_option maxRecDepth 10000 in
theorem mp_229 : MP 229 2 := ⟨(tb_8 _ (List.mem_of_getElem? (i := 150) rfl)), (tb_1 _ (List.mem_of_getElem? (i := 14) rfl)), by decide +kernel, by decide +kernel, by decide +kernel, by decide +kernel⟩
set_option maxRecDepth 10000 in
theorem mp_230 : MP 230 1 := ⟨(tb_8 _ (List.mem_of_getElem? (i := 158) rfl)), (tb_1 _ (List.mem_of_getElem? (i := 14) rfl)), by decide +kernel, by decide +kernel, by decide +kernel, by decide +kernel⟩
set_option maxRecDepth 10000 in
theorem mp_231 : MP 231 1 := ⟨(tb_8 _ (List.mem_of_getElem? (i := 162) rfl)), (tb_1 _ (List.mem_of_getElem? (i := 14) rfl)), by decide +kernel, by decide +kernel, by decide +kernel, by decide +kernel⟩
set_option maxRecDepth 10000 in
theorem mp_232 : MP 232 0 := ⟨(tb_8 _ (List.mem_of_getElem? (i := 170) rfl)), (tb_1 _ (List.mem_of_getElem? (i := 14) rfl)), by decide +kernel, by decide +kernel, by decide +kernel, by decide +kernel⟩
set_option maxRecDepth 10000 in
theorem mp_233 : MP 233 0 := ⟨(tb_8 _ (List.mem_of_getElem? (i := 166) rfl)), (tb_1 _ (List.mem_of_getElem? (i := 14) rfl)), by decide +kernel, by decide +kernel, by decide +kernel, by decide +kernel⟩
set_option maxRecDepth 10000 in
theorem mp_234 : MP 234 0 := ⟨(tb_8 _ (List.mem_of_getElem? (i := 174) rfl)), (tb_1 _ (List.mem_of_getElem? (i := 14) rfl)), by decide +kernel, by decide +kernel, by decide +kernel, by decide +kernel⟩
set_option maxRecDepth 10000 in
theorem mp_235 : MP 235 3 := ⟨(tb_8 _ (List.mem_of_getElem? (i := 178) rfl)), (tb_1 _ (List.mem_of_getElem? (i := 14) rfl)), by decide +kernel, by decide +kernel, by decide +kernel, by decide +kernel⟩
set_option maxRecDepth 10000 in
theorem mp_236 : MP 236 1 := ⟨(tb_8 _ (List.mem_of_getElem? (i := 182) rfl)), (tb_1 _ (List.mem_of_getElem? (i := 14) rfl)), by decide +kernel, by decide +kernel, by decide +kernel, by decide +kernel⟩
set_option maxRecDepth 10000 in
theorem mp_237 : MP 237 0 := ⟨(tb_8 _ (List.mem_of_getElem? (i := 186) rfl)), (tb_1 _ (List.mem_of_getElem? (i := 14) rfl)), by decide +kernel, by decide +kernel, by decide +kernel, by decide +kernel⟩
set_option maxRecDepth 10000 in
theorem mp_238 : MP 238 0 := ⟨(tb_8 _ (List.mem_of_getElem? (i := 190) rfl)), (tb_1 _ (List.mem_of_getElem? (i := 14) rfl)), by decide +kernel, by decide +kernel, by decide +kernel, by decide +kernel⟩
set_option maxRecDepth 10000 in
theorem mp_239 : MP 239 0 := ⟨(tb_8 _ (List.mem_of_getElem? (i := 198) rfl)), (tb_1 _ (List.mem_of_getElem? (i := 14) rfl)), by decide +kernel, by decide +kernel, by decide +kernel, by decide +kernel⟩
set_option maxRecDepth 10000 in
theorem mp_240 : MP 240 1 := ⟨(tb_8 _ (List.mem_of_getElem? (i := 202) rfl)), (tb_1 _ (List.mem_of_getElem? (i := 14) rfl)), by decide +kernel, by decide +kernel, by decide +kernel, by decide +kernel⟩
set_option maxRecDepth 10000 in
theorem mp_241 : MP 241 0 := ⟨(tb_3 _ (List.mem_of_getElem? (i := 157) rfl)), (tb_1 _ (List.mem_of_getElem? (i := 4) rfl)), by decide +kernel, by decide +kernel, by decide +kernel, by decide +kernel⟩
set_option maxRecDepth 10000 in
theorem mp_247 : MP 247 0 := ⟨(tb_3 _ (List.mem_of_getElem? (i := 59) rfl)), (tb_1 _ (List.mem_of_getElem? (i := 16) rfl)), by decide +kernel, by decide +kernel, by decide +kernel, by decide +kernel⟩
set_option maxRecDepth 10000 in
theorem mp_248 : MP 248 1 := ⟨(tb_3 _ (List.mem_of_getElem? (i := 69) rfl)), (tb_1 _ (List.mem_of_getElem? (i := 16) rfl)), by decide +kernel, by decide +kernel, by decide +kernel, by decide +kernel⟩
set_option maxRecDepth 10000 in
theorem mp_249 : MP 249 0 := ⟨(tb_3 _ (List.mem_of_getElem? (i := 63) rfl)), (tb_1 _ (List.mem_of_getElem? (i := 16) rfl)), by decide +kernel, by decide +kernel, by decide +kernel, by decide +kernel⟩
set_option maxRecDepth 10000 in
theorem mp_250 : MP 250 0 := ⟨(tb_3 _ (List.mem_of_getElem? (i := 73) rfl)), (tb_1 _ (List.mem_of_getElem? (i := 16) rfl)), by decide +kernel, by decide +kernel, by decide +kernel, by decide +kernel⟩
set_option maxRecDepth 10000 in
theorem mp_251 : MP 251 2 := ⟨(tb_3 _ (List.mem_of_getElem? (i := 79) rfl)), (tb_1 _ (List.mem_of_getElem? (i := 16) rfl)), by decide +kernel, by decide +kernel, by decide +kernel, by decide +kernel⟩
set_option maxRecDepth 10000 in
theorem mp_252 : MP 252 2 := ⟨(tb_3 _ (List.mem_of_getElem? (i := 76) rfl)), (tb_1 _ (List.mem_of_getElem? (i := 17) rfl)), by decide +kernel, by decide +kernel, by decide +kernel, by decide +kernel⟩
set_option maxRecDepth 10000 in
theorem mp_253 : MP 253 3 := ⟨(tb_3 _ (List.mem_of_getElem? (i := 84) rfl)), (tb_1 _ (List.mem_of_getElem? (i := 18) rfl)), by decide +kernel, by decide +kernel, by decide +kernel, by decide +kernel⟩
