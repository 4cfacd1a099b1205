/-! every entry of the code tables agrees with the tables of links -/
def okQ (y : Nat) (q : Nat × ME) : Bool := okE y q.1 q.2 && noC q.2 && (!isX q.2.1 || !isEnd q.2.1 q.2.2.2.2)
theorem lookup_mem {α : Type} {l : List (Nat × α)} {a : Nat} {b : α} (h : l.lookup a = some b) : (a, b) ∈ l := by
  obtain ⟨l1, l2, e, -⟩ := List.lookup_eq_some_iff.mp h
  rw [e]; simp
theorem okm_of {y : Nat} {m : List (Nat × ME)} (hm : MCs[y]? = some m) (h1 : m.all (okQ y) = true) (h2 : m.all (fun q => decide (decode (yB y) q.1 = .ok (q.2.1, q.2.2.1))) = true) : OKM y ∧ noX y := by
  have hmem : ∀ pc en, cd y pc = some en → (pc, en) ∈ m := by
    intro pc en h
    unfold cd at h
    rw [hm] at h
    exact lookup_mem h
  refine ⟨fun pc en h => ?_, fun pc en h hx => ?_⟩
  · have a1 := List.all_eq_true.mp h1 _ (hmem pc en h)
    have a2 := of_decide_eq_true (List.all_eq_true.mp h2 _ (hmem pc en h))
    unfold okQ at a1
    rw [Bool.and_eq_true, Bool.and_eq_true] at a1
    exact ⟨a1.1.1, a2, a1.1.2⟩
  · have a1 := List.all_eq_true.mp h1 _ (hmem pc en h)
    unfold okQ at a1
    rw [Bool.and_eq_true, Bool.or_eq_true] at a1
    rcases a1.2 with q | q
    · have q : (!isX en.1) = true := q
      rw [hx] at q; cases q
    · have q : (!isEnd en.1 en.2.2.2) = true := q
      simpa using q
def OK1 (z : Nat) : Prop := OKM z ∧ noX z ∧ ∃ np, MP z np
theorem okm_1 : OK1 1 := by
  obtain ⟨a, b⟩ := okm_of (y := 1) (m := m_1) rfl (by decide +kernel) dc_1
  exact ⟨a, b, 0, mp_1⟩
theorem okm_2 : OK1 2 := by
  obtain ⟨a, b⟩ := okm_of (y := 2) (m := m_2) rfl (by decide +kernel) dc_2
  exact ⟨a, b, 5, mp_2⟩
theorem okm_3 : OK1 3 := by
  obtain ⟨a, b⟩ := okm_of (y := 3) (m := m_3) rfl (by decide +kernel) dc_3
  exact ⟨a, b, 1, mp_3⟩
theorem okm_4 : OK1 4 := by
  obtain ⟨a, b⟩ := okm_of (y := 4) (m := m_4) rfl (by decide +kernel) dc_4
  exact ⟨a, b, 1, mp_4⟩
theorem okm_5 : OK1 5 := by
  obtain ⟨a, b⟩ := okm_of (y := 5) (m := m_5) rfl (by decide +kernel) dc_5
  exact ⟨a, b, 1, mp_5⟩
theorem okm_6 : OK1 6 := by
  obtain ⟨a, b⟩ := okm_of (y := 6) (m := m_6) rfl (by decide +kernel) dc_6
  exact ⟨a, b, 2, mp_6⟩
theorem okm_8 : OK1 8 := by
  obtain ⟨a, b⟩ := okm_of (y := 8) (m := m_8) rfl (by decide +kernel) dc_8
  exact ⟨a, b, 2, mp_8⟩
theorem okm_9 : OK1 9 := by
  obtain ⟨a, b⟩ := okm_of (y := 9) (m := m_9) rfl (by decide +kernel) dc_9
  exact ⟨a, b, 3, mp_9⟩
theorem okm_10 : OK1 10 := by
  obtain ⟨a, b⟩ := okm_of (y := 10) (m := m_10) rfl (by decide +kernel) dc_10
  exact ⟨a, b, 1, mp_10⟩
theorem okm_11 : OK1 11 := by
  obtain ⟨a, b⟩ := okm_of (y := 11) (m := m_11) rfl (by decide +kernel) dc_11
  exact ⟨a, b, 2, mp_11⟩
theorem okm_12 : OK1 12 := by
  obtain ⟨a, b⟩ := okm_of (y := 12) (m := m_12) rfl (by decide +kernel) dc_12
  exact ⟨a, b, 3, mp_12⟩
theorem okm_13 : OK1 13 := by
  obtain ⟨a, b⟩ := okm_of (y := 13) (m := m_13) rfl (by decide +kernel) dc_13
  exact ⟨a, b, 2, mp_13⟩
theorem okm_14 : OK1 14 := by
  obtain ⟨a, b⟩ := okm_of (y := 14) (m := m_14) rfl (by decide +kernel) dc_14
  exact ⟨a, b, 2, mp_14⟩
theorem okm_15 : OK1 15 := by
  obtain ⟨a, b⟩ := okm_of (y := 15) (m := m_15) rfl (by decide +kernel) dc_15
  exact ⟨a, b, 2, mp_15⟩
theorem okm_16 : OK1 16 := by
  obtain ⟨a, b⟩ := okm_of (y := 16) (m := m_16) rfl (by decide +kernel) dc_16
  exact ⟨a, b, 1, mp_16⟩
theorem okm_17 : OK1 17 := by
  obtain ⟨a, b⟩ := okm_of (y := 17) (m := m_17) rfl (by decide +kernel) dc_17
  exact ⟨a, b, 1, mp_17⟩
theorem okm_18 : OK1 18 := by
  obtain ⟨a, b⟩ := okm_of (y := 18) (m := m_18) rfl (by decide +kernel) dc_18
  exact ⟨a, b, 1, mp_18⟩
theorem okm_19 : OK1 19 := by
  obtain ⟨a, b⟩ := okm_of (y := 19) (m := m_19) rfl (by decide +kernel) dc_19
  exact ⟨a, b, 1, mp_19⟩
theorem okm_20 : OK1 20 := by
  obtain ⟨a, b⟩ := okm_of (y := 20) (m := m_20) rfl (by decide +kernel) dc_20
  exact ⟨a, b, 0, mp_20⟩
theorem okm_21 : OK1 21 := by
  obtain ⟨a, b⟩ := okm_of (y := 21) (m := m_21) rfl (by decide +kernel) dc_21
  exact ⟨a, b, 1, mp_21⟩
theorem okm_22 : OK1 22 := by
  obtain ⟨a, b⟩ := okm_of (y := 22) (m := m_22) rfl (by decide +kernel) dc_22
  exact ⟨a, b, 2, mp_22⟩
theorem okm_23 : OK1 23 := by
  obtain ⟨a, b⟩ := okm_of (y := 23) (m := m_23) rfl (by decide +kernel) dc_23
  exact ⟨a, b, 2, mp_23⟩
theorem okm_24 : OK1 24 := by
  obtain ⟨a, b⟩ := okm_of (y := 24) (m := m_24) rfl (by decide +kernel) dc_24
  exact ⟨a, b, 0, mp_24⟩
theorem okm_25 : OK1 25 := by
  obtain ⟨a, b⟩ := okm_of (y := 25) (m := m_25) rfl (by decide +kernel) dc_25
  exact ⟨a, b, 2, mp_25⟩
theorem okm_26 : OK1 26 := by
  obtain ⟨a, b⟩ := okm_of (y := 26) (m := m_26) rfl (by decide +kernel) dc_26
  exact ⟨a, b, 1, mp_26⟩
theorem okm_27 : OK1 27 := by
  obtain ⟨a, b⟩ := okm_of (y := 27) (m := m_27) rfl (by decide +kernel) dc_27
  exact ⟨a, b, 1, mp_27⟩
theorem okm_28 : OK1 28 := by
  obtain ⟨a, b⟩ := okm_of (y := 28) (m := m_28) rfl (by decide +kernel) dc_28
  exact ⟨a, b, 0, mp_28⟩
theorem okm_29 : OK1 29 := by
  obtain ⟨a, b⟩ := okm_of (y := 29) (m := m_29) rfl (by decide +kernel) dc_29
  exact ⟨a, b, 0, mp_29⟩
theorem okm_30 : OK1 30 := by
  obtain ⟨a, b⟩ := okm_of (y := 30) (m := m_30) rfl (by decide +kernel) dc_30
  exact ⟨a, b, 0, mp_30⟩
theorem okm_31 : OK1 31 := by
  obtain ⟨a, b⟩ := okm_of (y := 31) (m := m_31) rfl (by decide +kernel) dc_31
  exact ⟨a, b, 0, mp_31⟩
theorem okm_32 : OK1 32 := by
  obtain ⟨a, b⟩ := okm_of (y := 32) (m := m_32) rfl (by decide +kernel) dc_32
  exact ⟨a, b, 1, mp_32⟩
theorem okm_33 : OK1 33 := by
  obtain ⟨a, b⟩ := okm_of (y := 33) (m := m_33) rfl (by decide +kernel) dc_33
  exact ⟨a, b, 0, mp_33⟩
theorem okm_34 : OK1 34 := by
  obtain ⟨a, b⟩ := okm_of (y := 34) (m := m_34) rfl (by decide +kernel) dc_34
  exact ⟨a, b, 3, mp_34⟩
theorem okm_35 : OK1 35 := by
  obtain ⟨a, b⟩ := okm_of (y := 35) (m := m_35) rfl (by decide +kernel) dc_35
  exact ⟨a, b, 1, mp_35⟩
theorem okm_36 : OK1 36 := by
  obtain ⟨a, b⟩ := okm_of (y := 36) (m := m_36) rfl (by decide +kernel) dc_36
  exact ⟨a, b, 0, mp_36⟩
theorem okm_37 : OK1 37 := by
  obtain ⟨a, b⟩ := okm_of (y := 37) (m := m_37) rfl (by decide +kernel) dc_37
  exact ⟨a, b, 0, mp_37⟩
theorem okm_38 : OK1 38 := by
  obtain ⟨a, b⟩ := okm_of (y := 38) (m := m_38) rfl (by decide +kernel) dc_38
  exact ⟨a, b, 1, mp_38⟩
theorem okm_39 : OK1 39 := by
  obtain ⟨a, b⟩ := okm_of (y := 39) (m := m_39) rfl (by decide +kernel) dc_39
  exact ⟨a, b, 2, mp_39⟩
theorem okm_40 : OK1 40 := by
  obtain ⟨a, b⟩ := okm_of (y := 40) (m := m_40) rfl (by decide +kernel) dc_40
  exact ⟨a, b, 0, mp_40⟩
theorem okm_41 : OK1 41 := by
  obtain ⟨a, b⟩ := okm_of (y := 41) (m := m_41) rfl (by decide +kernel) dc_41
  exact ⟨a, b, 0, mp_41⟩
theorem okm_42 : OK1 42 := by
  obtain ⟨a, b⟩ := okm_of (y := 42) (m := m_42) rfl (by decide +kernel) dc_42
  exact ⟨a, b, 1, mp_42⟩
theorem okm_43 : OK1 43 := by
  obtain ⟨a, b⟩ := okm_of (y := 43) (m := m_43) rfl (by decide +kernel) dc_43
  exact ⟨a, b, 0, mp_43⟩
theorem okm_44 : OK1 44 := by
  obtain ⟨a, b⟩ := okm_of (y := 44) (m := m_44) rfl (by decide +kernel) dc_44
  exact ⟨a, b, 0, mp_44⟩
theorem okm_45 : OK1 45 := by
  obtain ⟨a, b⟩ := okm_of (y := 45) (m := m_45) rfl (by decide +kernel) dc_45
  exact ⟨a, b, 0, mp_45⟩
theorem okm_46 : OK1 46 := by
  obtain ⟨a, b⟩ := okm_of (y := 46) (m := m_46) rfl (by decide +kernel) dc_46
  exact ⟨a, b, 0, mp_46⟩
theorem okm_47 : OK1 47 := by
  obtain ⟨a, b⟩ := okm_of (y := 47) (m := m_47) rfl (by decide +kernel) dc_47
  exact ⟨a, b, 0, mp_47⟩
theorem okm_48 : OK1 48 := by
  obtain ⟨a, b⟩ := okm_of (y := 48) (m := m_48) rfl (by decide +kernel) dc_48
  exact ⟨a, b, 0, mp_48⟩
theorem okm_49 : OK1 49 := by
  obtain ⟨a, b⟩ := okm_of (y := 49) (m := m_49) rfl (by decide +kernel) dc_49
  exact ⟨a, b, 1, mp_49⟩
theorem okm_50 : OK1 50 := by
  obtain ⟨a, b⟩ := okm_of (y := 50) (m := m_50) rfl (by decide +kernel) dc_50
  exact ⟨a, b, 1, mp_50⟩
theorem okm_51 : OK1 51 := by
  obtain ⟨a, b⟩ := okm_of (y := 51) (m := m_51) rfl (by decide +kernel) dc_51
  exact ⟨a, b, 1, mp_51⟩
theorem okm_52 : OK1 52 := by
  obtain ⟨a, b⟩ := okm_of (y := 52) (m := m_52) rfl (by decide +kernel) dc_52
  exact ⟨a, b, 0, mp_52⟩
theorem okm_53 : OK1 53 := by
  obtain ⟨a, b⟩ := okm_of (y := 53) (m := m_53) rfl (by decide +kernel) dc_53
  exact ⟨a, b, 1, mp_53⟩
theorem okm_54 : OK1 54 := by
  obtain ⟨a, b⟩ := okm_of (y := 54) (m := m_54) rfl (by decide +kernel) dc_54
  exact ⟨a, b, 0, mp_54⟩
theorem okm_55 : OK1 55 := by
  obtain ⟨a, b⟩ := okm_of (y := 55) (m := m_55) rfl (by decide +kernel) dc_55
  exact ⟨a, b, 2, mp_55⟩
theorem okm_56 : OK1 56 := by
  obtain ⟨a, b⟩ := okm_of (y := 56) (m := m_56) rfl (by decide +kernel) dc_56
  exact ⟨a, b, 0, mp_56⟩
theorem okm_57 : OK1 57 := by
  obtain ⟨a, b⟩ := okm_of (y := 57) (m := m_57) rfl (by decide +kernel) dc_57
  exact ⟨a, b, 2, mp_57⟩
theorem okm_58 : OK1 58 := by
  obtain ⟨a, b⟩ := okm_of (y := 58) (m := m_58) rfl (by decide +kernel) dc_58
  exact ⟨a, b, 0, mp_58⟩
theorem okm_59 : OK1 59 := by
  obtain ⟨a, b⟩ := okm_of (y := 59) (m := m_59) rfl (by decide +kernel) dc_59
  exact ⟨a, b, 0, mp_59⟩
theorem okm_60 : OK1 60 := by
  obtain ⟨a, b⟩ := okm_of (y := 60) (m := m_60) rfl (by decide +kernel) dc_60
  exact ⟨a, b, 1, mp_60⟩
theorem okm_61 : OK1 61 := by
  obtain ⟨a, b⟩ := okm_of (y := 61) (m := m_61) rfl (by decide +kernel) dc_61
  exact ⟨a, b, 0, mp_61⟩
theorem okm_62 : OK1 62 := by
  obtain ⟨a, b⟩ := okm_of (y := 62) (m := m_62) rfl (by decide +kernel) dc_62
  exact ⟨a, b, 0, mp_62⟩
theorem okm_63 : OK1 63 := by
  obtain ⟨a, b⟩ := okm_of (y := 63) (m := m_63) rfl (by decide +kernel) dc_63
  exact ⟨a, b, 1, mp_63⟩
theorem okm_64 : OK1 64 := by
  obtain ⟨a, b⟩ := okm_of (y := 64) (m := m_64) rfl (by decide +kernel) dc_64
  exact ⟨a, b, 0, mp_64⟩
theorem okm_65 : OK1 65 := by
  obtain ⟨a, b⟩ := okm_of (y := 65) (m := m_65) rfl (by decide +kernel) dc_65
  exact ⟨a, b, 0, mp_65⟩
theorem okm_66 : OK1 66 := by
  obtain ⟨a, b⟩ := okm_of (y := 66) (m := m_66) rfl (by decide +kernel) dc_66
  exact ⟨a, b, 1, mp_66⟩
theorem okm_67 : OK1 67 := by
  obtain ⟨a, b⟩ := okm_of (y := 67) (m := m_67) rfl (by decide +kernel) dc_67
  exact ⟨a, b, 1, mp_67⟩
theorem okm_68 : OK1 68 := by
  obtain ⟨a, b⟩ := okm_of (y := 68) (m := m_68) rfl (by decide +kernel) dc_68
  exact ⟨a, b, 1, mp_68⟩
theorem okm_69 : OK1 69 := by
  obtain ⟨a, b⟩ := okm_of (y := 69) (m := m_69) rfl (by decide +kernel) dc_69
  exact ⟨a, b, 1, mp_69⟩
theorem okm_70 : OK1 70 := by
  obtain ⟨a, b⟩ := okm_of (y := 70) (m := m_70) rfl (by decide +kernel) dc_70
  exact ⟨a, b, 1, mp_70⟩
theorem okm_71 : OK1 71 := by
  obtain ⟨a, b⟩ := okm_of (y := 71) (m := m_71) rfl (by decide +kernel) dc_71
  exact ⟨a, b, 1, mp_71⟩
theorem okm_72 : OK1 72 := by
  obtain ⟨a, b⟩ := okm_of (y := 72) (m := m_72) rfl (by decide +kernel) dc_72
  exact ⟨a, b, 2, mp_72⟩
theorem okm_73 : OK1 73 := by
  obtain ⟨a, b⟩ := okm_of (y := 73) (m := m_73) rfl (by decide +kernel) dc_73
  exact ⟨a, b, 3, mp_73⟩
theorem okm_74 : OK1 74 := by
  obtain ⟨a, b⟩ := okm_of (y := 74) (m := m_74) rfl (by decide +kernel) dc_74
  exact ⟨a, b, 3, mp_74⟩
theorem okm_75 : OK1 75 := by
  obtain ⟨a, b⟩ := okm_of (y := 75) (m := m_75) rfl (by decide +kernel) dc_75
  exact ⟨a, b, 3, mp_75⟩
theorem okm_76 : OK1 76 := by
  obtain ⟨a, b⟩ := okm_of (y := 76) (m := m_76) rfl (by decide +kernel) dc_76
  exact ⟨a, b, 3, mp_76⟩
theorem okm_77 : OK1 77 := by
  obtain ⟨a, b⟩ := okm_of (y := 77) (m := m_77) rfl (by decide +kernel) dc_77
  exact ⟨a, b, 1, mp_77⟩
theorem okm_78 : OK1 78 := by
  obtain ⟨a, b⟩ := okm_of (y := 78) (m := m_78) rfl (by decide +kernel) dc_78
  exact ⟨a, b, 1, mp_78⟩
theorem okm_79 : OK1 79 := by
  obtain ⟨a, b⟩ := okm_of (y := 79) (m := m_79) rfl (by decide +kernel) dc_79
  exact ⟨a, b, 0, mp_79⟩
theorem okm_80 : OK1 80 := by
  obtain ⟨a, b⟩ := okm_of (y := 80) (m := m_80) rfl (by decide +kernel) dc_80
  exact ⟨a, b, 0, mp_80⟩
theorem okm_81 : OK1 81 := by
  obtain ⟨a, b⟩ := okm_of (y := 81) (m := m_81) rfl (by decide +kernel) dc_81
  exact ⟨a, b, 2, mp_81⟩
theorem okm_82 : OK1 82 := by
  obtain ⟨a, b⟩ := okm_of (y := 82) (m := m_82) rfl (by decide +kernel) dc_82
  exact ⟨a, b, 1, mp_82⟩
theorem okm_83 : OK1 83 := by
  obtain ⟨a, b⟩ := okm_of (y := 83) (m := m_83) rfl (by decide +kernel) dc_83
  exact ⟨a, b, 3, mp_83⟩
theorem okm_84 : OK1 84 := by
  obtain ⟨a, b⟩ := okm_of (y := 84) (m := m_84) rfl (by decide +kernel) dc_84
  exact ⟨a, b, 1, mp_84⟩
theorem okm_85 : OK1 85 := by
  obtain ⟨a, b⟩ := okm_of (y := 85) (m := m_85) rfl (by decide +kernel) dc_85
  exact ⟨a, b, 1, mp_85⟩
theorem okm_86 : OK1 86 := by
  obtain ⟨a, b⟩ := okm_of (y := 86) (m := m_86) rfl (by decide +kernel) dc_86
  exact ⟨a, b, 1, mp_86⟩
theorem okm_87 : OK1 87 := by
  obtain ⟨a, b⟩ := okm_of (y := 87) (m := m_87) rfl (by decide +kernel) dc_87
  exact ⟨a, b, 1, mp_87⟩
theorem okm_88 : OK1 88 := by
  obtain ⟨a, b⟩ := okm_of (y := 88) (m := m_88) rfl (by decide +kernel) dc_88
  exact ⟨a, b, 1, mp_88⟩
theorem okm_89 : OK1 89 := by
  obtain ⟨a, b⟩ := okm_of (y := 89) (m := m_89) rfl (by decide +kernel) dc_89
  exact ⟨a, b, 1, mp_89⟩
theorem okm_90 : OK1 90 := by
  obtain ⟨a, b⟩ := okm_of (y := 90) (m := m_90) rfl (by decide +kernel) dc_90
  exact ⟨a, b, 1, mp_90⟩
theorem okm_91 : OK1 91 := by
  obtain ⟨a, b⟩ := okm_of (y := 91) (m := m_91) rfl (by decide +kernel) dc_91
  exact ⟨a, b, 1, mp_91⟩
theorem okm_92 : OK1 92 := by
  obtain ⟨a, b⟩ := okm_of (y := 92) (m := m_92) rfl (by decide +kernel) dc_92
  exact ⟨a, b, 1, mp_92⟩
theorem okm_93 : OK1 93 := by
  obtain ⟨a, b⟩ := okm_of (y := 93) (m := m_93) rfl (by decide +kernel) dc_93
  exact ⟨a, b, 1, mp_93⟩
theorem okm_94 : OK1 94 := by
  obtain ⟨a, b⟩ := okm_of (y := 94) (m := m_94) rfl (by decide +kernel) dc_94
  exact ⟨a, b, 1, mp_94⟩
theorem okm_95 : OK1 95 := by
  obtain ⟨a, b⟩ := okm_of (y := 95) (m := m_95) rfl (by decide +kernel) dc_95
  exact ⟨a, b, 2, mp_95⟩
theorem okm_96 : OK1 96 := by
  obtain ⟨a, b⟩ := okm_of (y := 96) (m := m_96) rfl (by decide +kernel) dc_96
  exact ⟨a, b, 3, mp_96⟩
theorem okm_97 : OK1 97 := by
  obtain ⟨a, b⟩ := okm_of (y := 97) (m := m_97) rfl (by decide +kernel) dc_97
  exact ⟨a, b, 1, mp_97⟩
theorem okm_98 : OK1 98 := by
  obtain ⟨a, b⟩ := okm_of (y := 98) (m := m_98) rfl (by decide +kernel) dc_98
  exact ⟨a, b, 2, mp_98⟩
theorem okm_99 : OK1 99 := by
  obtain ⟨a, b⟩ := okm_of (y := 99) (m := m_99) rfl (by decide +kernel) dc_99
  exact ⟨a, b, 1, mp_99⟩
theorem okm_100 : OK1 100 := by
  obtain ⟨a, b⟩ := okm_of (y := 100) (m := m_100) rfl (by decide +kernel) dc_100
  exact ⟨a, b, 3, mp_100⟩
theorem okm_101 : OK1 101 := by
  obtain ⟨a, b⟩ := okm_of (y := 101) (m := m_101) rfl (by decide +kernel) dc_101
  exact ⟨a, b, 1, mp_101⟩
theorem okm_102 : OK1 102 := by
  obtain ⟨a, b⟩ := okm_of (y := 102) (m := m_102) rfl (by decide +kernel) dc_102
  exact ⟨a, b, 2, mp_102⟩
theorem okm_103 : OK1 103 := by
  obtain ⟨a, b⟩ := okm_of (y := 103) (m := m_103) rfl (by decide +kernel) dc_103
  exact ⟨a, b, 2, mp_103⟩
theorem okm_104 : OK1 104 := by
  obtain ⟨a, b⟩ := okm_of (y := 104) (m := m_104) rfl (by decide +kernel) dc_104
  exact ⟨a, b, 1, mp_104⟩
theorem okm_105 : OK1 105 := by
  obtain ⟨a, b⟩ := okm_of (y := 105) (m := m_105) rfl (by decide +kernel) dc_105
  exact ⟨a, b, 1, mp_105⟩
theorem okm_106 : OK1 106 := by
  obtain ⟨a, b⟩ := okm_of (y := 106) (m := m_106) rfl (by decide +kernel) dc_106
  exact ⟨a, b, 0, mp_106⟩
theorem okm_107 : OK1 107 := by
  obtain ⟨a, b⟩ := okm_of (y := 107) (m := m_107) rfl (by decide +kernel) dc_107
  exact ⟨a, b, 0, mp_107⟩
theorem okm_108 : OK1 108 := by
  obtain ⟨a, b⟩ := okm_of (y := 108) (m := m_108) rfl (by decide +kernel) dc_108
  exact ⟨a, b, 0, mp_108⟩
theorem okm_109 : OK1 109 := by
  obtain ⟨a, b⟩ := okm_of (y := 109) (m := m_109) rfl (by decide +kernel) dc_109
  exact ⟨a, b, 3, mp_109⟩
theorem okm_110 : OK1 110 := by
  obtain ⟨a, b⟩ := okm_of (y := 110) (m := m_110) rfl (by decide +kernel) dc_110
  exact ⟨a, b, 2, mp_110⟩
theorem okm_111 : OK1 111 := by
  obtain ⟨a, b⟩ := okm_of (y := 111) (m := m_111) rfl (by decide +kernel) dc_111
  exact ⟨a, b, 2, mp_111⟩
theorem okm_112 : OK1 112 := by
  obtain ⟨a, b⟩ := okm_of (y := 112) (m := m_112) rfl (by decide +kernel) dc_112
  exact ⟨a, b, 4, mp_112⟩
theorem okm_113 : OK1 113 := by
  obtain ⟨a, b⟩ := okm_of (y := 113) (m := m_113) rfl (by decide +kernel) dc_113
  exact ⟨a, b, 3, mp_113⟩
theorem okm_114 : OK1 114 := by
  obtain ⟨a, b⟩ := okm_of (y := 114) (m := m_114) rfl (by decide +kernel) dc_114
  exact ⟨a, b, 4, mp_114⟩
theorem okm_115 : OK1 115 := by
  obtain ⟨a, b⟩ := okm_of (y := 115) (m := m_115) rfl (by decide +kernel) dc_115
  exact ⟨a, b, 1, mp_115⟩
theorem okm_116 : OK1 116 := by
  obtain ⟨a, b⟩ := okm_of (y := 116) (m := m_116) rfl (by decide +kernel) dc_116
  exact ⟨a, b, 2, mp_116⟩
theorem okm_117 : OK1 117 := by
  obtain ⟨a, b⟩ := okm_of (y := 117) (m := m_117) rfl (by decide +kernel) dc_117
  exact ⟨a, b, 3, mp_117⟩
theorem okm_118 : OK1 118 := by
  obtain ⟨a, b⟩ := okm_of (y := 118) (m := m_118) rfl (by decide +kernel) dc_118
  exact ⟨a, b, 0, mp_118⟩
theorem okm_119 : OK1 119 := by
  obtain ⟨a, b⟩ := okm_of (y := 119) (m := m_119) rfl (by decide +kernel) dc_119
  exact ⟨a, b, 2, mp_119⟩
theorem okm_120 : OK1 120 := by
  obtain ⟨a, b⟩ := okm_of (y := 120) (m := m_120) rfl (by decide +kernel) dc_120
  exact ⟨a, b, 0, mp_120⟩
theorem okm_121 : OK1 121 := by
  obtain ⟨a, b⟩ := okm_of (y := 121) (m := m_121) rfl (by decide +kernel) dc_121
  exact ⟨a, b, 1, mp_121⟩
theorem okm_122 : OK1 122 := by
  obtain ⟨a, b⟩ := okm_of (y := 122) (m := m_122) rfl (by decide +kernel) dc_122
  exact ⟨a, b, 2, mp_122⟩
theorem okm_123 : OK1 123 := by
  obtain ⟨a, b⟩ := okm_of (y := 123) (m := m_123) rfl (by decide +kernel) dc_123
  exact ⟨a, b, 2, mp_123⟩
theorem okm_124 : OK1 124 := by
  obtain ⟨a, b⟩ := okm_of (y := 124) (m := m_124) rfl (by decide +kernel) dc_124
  exact ⟨a, b, 2, mp_124⟩
theorem okm_125 : OK1 125 := by
  obtain ⟨a, b⟩ := okm_of (y := 125) (m := m_125) rfl (by decide +kernel) dc_125
  exact ⟨a, b, 0, mp_125⟩
theorem okm_126 : OK1 126 := by
  obtain ⟨a, b⟩ := okm_of (y := 126) (m := m_126) rfl (by decide +kernel) dc_126
  exact ⟨a, b, 0, mp_126⟩
theorem okm_127 : OK1 127 := by
  obtain ⟨a, b⟩ := okm_of (y := 127) (m := m_127) rfl (by decide +kernel) dc_127
  exact ⟨a, b, 2, mp_127⟩
theorem okm_128 : OK1 128 := by
  obtain ⟨a, b⟩ := okm_of (y := 128) (m := m_128) rfl (by decide +kernel) dc_128
  exact ⟨a, b, 0, mp_128⟩
theorem okm_129 : OK1 129 := by
  obtain ⟨a, b⟩ := okm_of (y := 129) (m := m_129) rfl (by decide +kernel) dc_129
  exact ⟨a, b, 0, mp_129⟩
theorem okm_130 : OK1 130 := by
  obtain ⟨a, b⟩ := okm_of (y := 130) (m := m_130) rfl (by decide +kernel) dc_130
  exact ⟨a, b, 1, mp_130⟩
theorem okm_131 : OK1 131 := by
  obtain ⟨a, b⟩ := okm_of (y := 131) (m := m_131) rfl (by decide +kernel) dc_131
  exact ⟨a, b, 1, mp_131⟩
theorem okm_132 : OK1 132 := by
  obtain ⟨a, b⟩ := okm_of (y := 132) (m := m_132) rfl (by decide +kernel) dc_132
  exact ⟨a, b, 0, mp_132⟩
theorem okm_133 : OK1 133 := by
  obtain ⟨a, b⟩ := okm_of (y := 133) (m := m_133) rfl (by decide +kernel) dc_133
  exact ⟨a, b, 1, mp_133⟩
theorem okm_134 : OK1 134 := by
  obtain ⟨a, b⟩ := okm_of (y := 134) (m := m_134) rfl (by decide +kernel) dc_134
  exact ⟨a, b, 1, mp_134⟩
theorem okm_135 : OK1 135 := by
  obtain ⟨a, b⟩ := okm_of (y := 135) (m := m_135) rfl (by decide +kernel) dc_135
  exact ⟨a, b, 0, mp_135⟩
theorem okm_136 : OK1 136 := by
  obtain ⟨a, b⟩ := okm_of (y := 136) (m := m_136) rfl (by decide +kernel) dc_136
  exact ⟨a, b, 0, mp_136⟩
theorem okm_137 : OK1 137 := by
  obtain ⟨a, b⟩ := okm_of (y := 137) (m := m_137) rfl (by decide +kernel) dc_137
  exact ⟨a, b, 5, mp_137⟩
theorem okm_138 : OK1 138 := by
  obtain ⟨a, b⟩ := okm_of (y := 138) (m := m_138) rfl (by decide +kernel) dc_138
  exact ⟨a, b, 0, mp_138⟩
theorem okm_139 : OK1 139 := by
  obtain ⟨a, b⟩ := okm_of (y := 139) (m := m_139) rfl (by decide +kernel) dc_139
  exact ⟨a, b, 1, mp_139⟩
theorem okm_140 : OK1 140 := by
  obtain ⟨a, b⟩ := okm_of (y := 140) (m := m_140) rfl (by decide +kernel) dc_140
  exact ⟨a, b, 1, mp_140⟩
theorem okm_141 : OK1 141 := by
  obtain ⟨a, b⟩ := okm_of (y := 141) (m := m_141) rfl (by decide +kernel) dc_141
  exact ⟨a, b, 0, mp_141⟩
theorem okm_142 : OK1 142 := by
  obtain ⟨a, b⟩ := okm_of (y := 142) (m := m_142) rfl (by decide +kernel) dc_142
  exact ⟨a, b, 1, mp_142⟩
theorem okm_143 : OK1 143 := by
  obtain ⟨a, b⟩ := okm_of (y := 143) (m := m_143) rfl (by decide +kernel) dc_143
  exact ⟨a, b, 0, mp_143⟩
theorem okm_144 : OK1 144 := by
  obtain ⟨a, b⟩ := okm_of (y := 144) (m := m_144) rfl (by decide +kernel) dc_144
  exact ⟨a, b, 0, mp_144⟩
theorem okm_145 : OK1 145 := by
  obtain ⟨a, b⟩ := okm_of (y := 145) (m := m_145) rfl (by decide +kernel) dc_145
  exact ⟨a, b, 1, mp_145⟩
theorem okm_146 : OK1 146 := by
  obtain ⟨a, b⟩ := okm_of (y := 146) (m := m_146) rfl (by decide +kernel) dc_146
  exact ⟨a, b, 1, mp_146⟩
theorem okm_147 : OK1 147 := by
  obtain ⟨a, b⟩ := okm_of (y := 147) (m := m_147) rfl (by decide +kernel) dc_147
  exact ⟨a, b, 1, mp_147⟩
theorem okm_148 : OK1 148 := by
  obtain ⟨a, b⟩ := okm_of (y := 148) (m := m_148) rfl (by decide +kernel) dc_148
  exact ⟨a, b, 0, mp_148⟩
theorem okm_149 : OK1 149 := by
  obtain ⟨a, b⟩ := okm_of (y := 149) (m := m_149) rfl (by decide +kernel) dc_149
  exact ⟨a, b, 2, mp_149⟩
theorem okm_150 : OK1 150 := by
  obtain ⟨a, b⟩ := okm_of (y := 150) (m := m_150) rfl (by decide +kernel) dc_150
  exact ⟨a, b, 4, mp_150⟩
theorem okm_151 : OK1 151 := by
  obtain ⟨a, b⟩ := okm_of (y := 151) (m := m_151) rfl (by decide +kernel) dc_151
  exact ⟨a, b, 3, mp_151⟩
theorem okm_152 : OK1 152 := by
  obtain ⟨a, b⟩ := okm_of (y := 152) (m := m_152) rfl (by decide +kernel) dc_152
  exact ⟨a, b, 3, mp_152⟩
theorem okm_153 : OK1 153 := by
  obtain ⟨a, b⟩ := okm_of (y := 153) (m := m_153) rfl (by decide +kernel) dc_153
  exact ⟨a, b, 0, mp_153⟩
theorem okm_154 : OK1 154 := by
  obtain ⟨a, b⟩ := okm_of (y := 154) (m := m_154) rfl (by decide +kernel) dc_154
  exact ⟨a, b, 0, mp_154⟩
theorem okm_155 : OK1 155 := by
  obtain ⟨a, b⟩ := okm_of (y := 155) (m := m_155) rfl (by decide +kernel) dc_155
  exact ⟨a, b, 1, mp_155⟩
theorem okm_156 : OK1 156 := by
  obtain ⟨a, b⟩ := okm_of (y := 156) (m := m_156) rfl (by decide +kernel) dc_156
  exact ⟨a, b, 1, mp_156⟩
theorem okm_157 : OK1 157 := by
  obtain ⟨a, b⟩ := okm_of (y := 157) (m := m_157) rfl (by decide +kernel) dc_157
  exact ⟨a, b, 1, mp_157⟩
theorem okm_158 : OK1 158 := by
  obtain ⟨a, b⟩ := okm_of (y := 158) (m := m_158) rfl (by decide +kernel) dc_158
  exact ⟨a, b, 0, mp_158⟩
theorem okm_159 : OK1 159 := by
  obtain ⟨a, b⟩ := okm_of (y := 159) (m := m_159) rfl (by decide +kernel) dc_159
  exact ⟨a, b, 1, mp_159⟩
theorem okm_160 : OK1 160 := by
  obtain ⟨a, b⟩ := okm_of (y := 160) (m := m_160) rfl (by decide +kernel) dc_160
  exact ⟨a, b, 1, mp_160⟩
theorem okm_161 : OK1 161 := by
  obtain ⟨a, b⟩ := okm_of (y := 161) (m := m_161) rfl (by decide +kernel) dc_161
  exact ⟨a, b, 0, mp_161⟩
theorem okm_162 : OK1 162 := by
  obtain ⟨a, b⟩ := okm_of (y := 162) (m := m_162) rfl (by decide +kernel) dc_162
  exact ⟨a, b, 0, mp_162⟩
theorem okm_163 : OK1 163 := by
  obtain ⟨a, b⟩ := okm_of (y := 163) (m := m_163) rfl (by decide +kernel) dc_163
  exact ⟨a, b, 0, mp_163⟩
theorem okm_164 : OK1 164 := by
  obtain ⟨a, b⟩ := okm_of (y := 164) (m := m_164) rfl (by decide +kernel) dc_164
  exact ⟨a, b, 0, mp_164⟩
theorem okm_165 : OK1 165 := by
  obtain ⟨a, b⟩ := okm_of (y := 165) (m := m_165) rfl (by decide +kernel) dc_165
  exact ⟨a, b, 2, mp_165⟩
theorem okm_166 : OK1 166 := by
  obtain ⟨a, b⟩ := okm_of (y := 166) (m := m_166) rfl (by decide +kernel) dc_166
  exact ⟨a, b, 0, mp_166⟩
theorem okm_167 : OK1 167 := by
  obtain ⟨a, b⟩ := okm_of (y := 167) (m := m_167) rfl (by decide +kernel) dc_167
  exact ⟨a, b, 0, mp_167⟩
theorem okm_168 : OK1 168 := by
  obtain ⟨a, b⟩ := okm_of (y := 168) (m := m_168) rfl (by decide +kernel) dc_168
  exact ⟨a, b, 0, mp_168⟩
theorem okm_169 : OK1 169 := by
  obtain ⟨a, b⟩ := okm_of (y := 169) (m := m_169) rfl (by decide +kernel) dc_169
  exact ⟨a, b, 0, mp_169⟩
theorem okm_170 : OK1 170 := by
  obtain ⟨a, b⟩ := okm_of (y := 170) (m := m_170) rfl (by decide +kernel) dc_170
  exact ⟨a, b, 0, mp_170⟩
theorem okm_171 : OK1 171 := by
  obtain ⟨a, b⟩ := okm_of (y := 171) (m := m_171) rfl (by decide +kernel) dc_171
  exact ⟨a, b, 0, mp_171⟩
theorem okm_172 : OK1 172 := by
  obtain ⟨a, b⟩ := okm_of (y := 172) (m := m_172) rfl (by decide +kernel) dc_172
  exact ⟨a, b, 0, mp_172⟩
theorem okm_173 : OK1 173 := by
  obtain ⟨a, b⟩ := okm_of (y := 173) (m := m_173) rfl (by decide +kernel) dc_173
  exact ⟨a, b, 1, mp_173⟩
theorem okm_174 : OK1 174 := by
  obtain ⟨a, b⟩ := okm_of (y := 174) (m := m_174) rfl (by decide +kernel) dc_174
  exact ⟨a, b, 1, mp_174⟩
theorem okm_175 : OK1 175 := by
  obtain ⟨a, b⟩ := okm_of (y := 175) (m := m_175) rfl (by decide +kernel) dc_175
  exact ⟨a, b, 1, mp_175⟩
theorem okm_176 : OK1 176 := by
  obtain ⟨a, b⟩ := okm_of (y := 176) (m := m_176) rfl (by decide +kernel) dc_176
  exact ⟨a, b, 2, mp_176⟩
theorem okm_177 : OK1 177 := by
  obtain ⟨a, b⟩ := okm_of (y := 177) (m := m_177) rfl (by decide +kernel) dc_177
  exact ⟨a, b, 0, mp_177⟩
theorem okm_178 : OK1 178 := by
  obtain ⟨a, b⟩ := okm_of (y := 178) (m := m_178) rfl (by decide +kernel) dc_178
  exact ⟨a, b, 2, mp_178⟩
theorem okm_179 : OK1 179 := by
  obtain ⟨a, b⟩ := okm_of (y := 179) (m := m_179) rfl (by decide +kernel) dc_179
  exact ⟨a, b, 2, mp_179⟩
theorem okm_180 : OK1 180 := by
  obtain ⟨a, b⟩ := okm_of (y := 180) (m := m_180) rfl (by decide +kernel) dc_180
  exact ⟨a, b, 1, mp_180⟩
theorem okm_181 : OK1 181 := by
  obtain ⟨a, b⟩ := okm_of (y := 181) (m := m_181) rfl (by decide +kernel) dc_181
  exact ⟨a, b, 1, mp_181⟩
theorem okm_182 : OK1 182 := by
  obtain ⟨a, b⟩ := okm_of (y := 182) (m := m_182) rfl (by decide +kernel) dc_182
  exact ⟨a, b, 1, mp_182⟩
theorem okm_183 : OK1 183 := by
  obtain ⟨a, b⟩ := okm_of (y := 183) (m := m_183) rfl (by decide +kernel) dc_183
  exact ⟨a, b, 2, mp_183⟩
theorem okm_184 : OK1 184 := by
  obtain ⟨a, b⟩ := okm_of (y := 184) (m := m_184) rfl (by decide +kernel) dc_184
  exact ⟨a, b, 2, mp_184⟩
theorem okm_185 : OK1 185 := by
  obtain ⟨a, b⟩ := okm_of (y := 185) (m := m_185) rfl (by decide +kernel) dc_185
  exact ⟨a, b, 2, mp_185⟩
theorem okm_186 : OK1 186 := by
  obtain ⟨a, b⟩ := okm_of (y := 186) (m := m_186) rfl (by decide +kernel) dc_186
  exact ⟨a, b, 2, mp_186⟩
theorem okm_187 : OK1 187 := by
  obtain ⟨a, b⟩ := okm_of (y := 187) (m := m_187) rfl (by decide +kernel) dc_187
  exact ⟨a, b, 3, mp_187⟩
theorem okm_188 : OK1 188 := by
  obtain ⟨a, b⟩ := okm_of (y := 188) (m := m_188) rfl (by decide +kernel) dc_188
  exact ⟨a, b, 0, mp_188⟩
theorem okm_189 : OK1 189 := by
  obtain ⟨a, b⟩ := okm_of (y := 189) (m := m_189) rfl (by decide +kernel) dc_189
  exact ⟨a, b, 1, mp_189⟩
theorem okm_190 : OK1 190 := by
  obtain ⟨a, b⟩ := okm_of (y := 190) (m := m_190) rfl (by decide +kernel) dc_190
  exact ⟨a, b, 1, mp_190⟩
theorem okm_191 : OK1 191 := by
  obtain ⟨a, b⟩ := okm_of (y := 191) (m := m_191) rfl (by decide +kernel) dc_191
  exact ⟨a, b, 1, mp_191⟩
theorem okm_192 : OK1 192 := by
  obtain ⟨a, b⟩ := okm_of (y := 192) (m := m_192) rfl (by decide +kernel) dc_192
  exact ⟨a, b, 1, mp_192⟩
theorem okm_193 : OK1 193 := by
  obtain ⟨a, b⟩ := okm_of (y := 193) (m := m_193) rfl (by decide +kernel) dc_193
  exact ⟨a, b, 4, mp_193⟩
theorem okm_194 : OK1 194 := by
  obtain ⟨a, b⟩ := okm_of (y := 194) (m := m_194) rfl (by decide +kernel) dc_194
  exact ⟨a, b, 3, mp_194⟩
theorem okm_195 : OK1 195 := by
  obtain ⟨a, b⟩ := okm_of (y := 195) (m := m_195) rfl (by decide +kernel) dc_195
  exact ⟨a, b, 2, mp_195⟩
theorem okm_196 : OK1 196 := by
  obtain ⟨a, b⟩ := okm_of (y := 196) (m := m_196) rfl (by decide +kernel) dc_196
  exact ⟨a, b, 2, mp_196⟩
theorem okm_197 : OK1 197 := by
  obtain ⟨a, b⟩ := okm_of (y := 197) (m := m_197) rfl (by decide +kernel) dc_197
  exact ⟨a, b, 2, mp_197⟩
theorem okm_198 : OK1 198 := by
  obtain ⟨a, b⟩ := okm_of (y := 198) (m := m_198) rfl (by decide +kernel) dc_198
  exact ⟨a, b, 2, mp_198⟩
theorem okm_199 : OK1 199 := by
  obtain ⟨a, b⟩ := okm_of (y := 199) (m := m_199) rfl (by decide +kernel) dc_199
  exact ⟨a, b, 3, mp_199⟩
theorem okm_200 : OK1 200 := by
  obtain ⟨a, b⟩ := okm_of (y := 200) (m := m_200) rfl (by decide +kernel) dc_200
  exact ⟨a, b, 1, mp_200⟩
theorem okm_201 : OK1 201 := by
  obtain ⟨a, b⟩ := okm_of (y := 201) (m := m_201) rfl (by decide +kernel) dc_201
  exact ⟨a, b, 1, mp_201⟩
theorem okm_202 : OK1 202 := by
  obtain ⟨a, b⟩ := okm_of (y := 202) (m := m_202) rfl (by decide +kernel) dc_202
  exact ⟨a, b, 1, mp_202⟩
theorem okm_203 : OK1 203 := by
  obtain ⟨a, b⟩ := okm_of (y := 203) (m := m_203) rfl (by decide +kernel) dc_203
  exact ⟨a, b, 2, mp_203⟩
theorem okm_204 : OK1 204 := by
  obtain ⟨a, b⟩ := okm_of (y := 204) (m := m_204) rfl (by decide +kernel) dc_204
  exact ⟨a, b, 1, mp_204⟩
theorem okm_205 : OK1 205 := by
  obtain ⟨a, b⟩ := okm_of (y := 205) (m := m_205) rfl (by decide +kernel) dc_205
  exact ⟨a, b, 1, mp_205⟩
theorem okm_206 : OK1 206 := by
  obtain ⟨a, b⟩ := okm_of (y := 206) (m := m_206) rfl (by decide +kernel) dc_206
  exact ⟨a, b, 2, mp_206⟩
theorem okm_207 : OK1 207 := by
  obtain ⟨a, b⟩ := okm_of (y := 207) (m := m_207) rfl (by decide +kernel) dc_207
  exact ⟨a, b, 2, mp_207⟩
theorem okm_208 : OK1 208 := by
  obtain ⟨a, b⟩ := okm_of (y := 208) (m := m_208) rfl (by decide +kernel) dc_208
  exact ⟨a, b, 3, mp_208⟩
theorem okm_209 : OK1 209 := by
  obtain ⟨a, b⟩ := okm_of (y := 209) (m := m_209) rfl (by decide +kernel) dc_209
  exact ⟨a, b, 1, mp_209⟩
theorem okm_210 : OK1 210 := by
  obtain ⟨a, b⟩ := okm_of (y := 210) (m := m_210) rfl (by decide +kernel) dc_210
  exact ⟨a, b, 2, mp_210⟩
theorem okm_211 : OK1 211 := by
  obtain ⟨a, b⟩ := okm_of (y := 211) (m := m_211) rfl (by decide +kernel) dc_211
  exact ⟨a, b, 1, mp_211⟩
theorem okm_212 : OK1 212 := by
  obtain ⟨a, b⟩ := okm_of (y := 212) (m := m_212) rfl (by decide +kernel) dc_212
  exact ⟨a, b, 2, mp_212⟩
theorem okm_213 : OK1 213 := by
  obtain ⟨a, b⟩ := okm_of (y := 213) (m := m_213) rfl (by decide +kernel) dc_213
  exact ⟨a, b, 2, mp_213⟩
theorem okm_214 : OK1 214 := by
  obtain ⟨a, b⟩ := okm_of (y := 214) (m := m_214) rfl (by decide +kernel) dc_214
  exact ⟨a, b, 3, mp_214⟩
theorem okm_215 : OK1 215 := by
  obtain ⟨a, b⟩ := okm_of (y := 215) (m := m_215) rfl (by decide +kernel) dc_215
  exact ⟨a, b, 1, mp_215⟩
theorem okm_216 : OK1 216 := by
  obtain ⟨a, b⟩ := okm_of (y := 216) (m := m_216) rfl (by decide +kernel) dc_216
  exact ⟨a, b, 1, mp_216⟩
theorem okm_217 : OK1 217 := by
  obtain ⟨a, b⟩ := okm_of (y := 217) (m := m_217) rfl (by decide +kernel) dc_217
  exact ⟨a, b, 2, mp_217⟩
theorem okm_218 : OK1 218 := by
  obtain ⟨a, b⟩ := okm_of (y := 218) (m := m_218) rfl (by decide +kernel) dc_218
  exact ⟨a, b, 0, mp_218⟩
theorem okm_219 : OK1 219 := by
  obtain ⟨a, b⟩ := okm_of (y := 219) (m := m_219) rfl (by decide +kernel) dc_219
  exact ⟨a, b, 1, mp_219⟩
theorem okm_220 : OK1 220 := by
  obtain ⟨a, b⟩ := okm_of (y := 220) (m := m_220) rfl (by decide +kernel) dc_220
  exact ⟨a, b, 1, mp_220⟩
theorem okm_221 : OK1 221 := by
  obtain ⟨a, b⟩ := okm_of (y := 221) (m := m_221) rfl (by decide +kernel) dc_221
  exact ⟨a, b, 2, mp_221⟩
theorem okm_222 : OK1 222 := by
  obtain ⟨a, b⟩ := okm_of (y := 222) (m := m_222) rfl (by decide +kernel) dc_222
  exact ⟨a, b, 3, mp_222⟩
theorem okm_223 : OK1 223 := by
  obtain ⟨a, b⟩ := okm_of (y := 223) (m := m_223) rfl (by decide +kernel) dc_223
  exact ⟨a, b, 0, mp_223⟩
theorem okm_224 : OK1 224 := by
  obtain ⟨a, b⟩ := okm_of (y := 224) (m := m_224) rfl (by decide +kernel) dc_224
  exact ⟨a, b, 1, mp_224⟩
theorem okm_225 : OK1 225 := by
  obtain ⟨a, b⟩ := okm_of (y := 225) (m := m_225) rfl (by decide +kernel) dc_225
  exact ⟨a, b, 0, mp_225⟩
theorem okm_226 : OK1 226 := by
  obtain ⟨a, b⟩ := okm_of (y := 226) (m := m_226) rfl (by decide +kernel) dc_226
  exact ⟨a, b, 1, mp_226⟩
theorem okm_227 : OK1 227 := by
  obtain ⟨a, b⟩ := okm_of (y := 227) (m := m_227) rfl (by decide +kernel) dc_227
  exact ⟨a, b, 2, mp_227⟩
theorem okm_228 : OK1 228 := by
  obtain ⟨a, b⟩ := okm_of (y := 228) (m := m_228) rfl (by decide +kernel) dc_228
  exact ⟨a, b, 2, mp_228⟩
theorem okm_229 : OK1 229 := by
  obtain ⟨a, b⟩ := okm_of (y := 229) (m := m_229) rfl (by decide +kernel) dc_229
  exact ⟨a, b, 2, mp_229⟩
theorem okm_230 : OK1 230 := by
  obtain ⟨a, b⟩ := okm_of (y := 230) (m := m_230) rfl (by decide +kernel) dc_230
  exact ⟨a, b, 1, mp_230⟩
theorem okm_231 : OK1 231 := by
  obtain ⟨a, b⟩ := okm_of (y := 231) (m := m_231) rfl (by decide +kernel) dc_231
  exact ⟨a, b, 1, mp_231⟩
theorem okm_232 : OK1 232 := by
  obtain ⟨a, b⟩ := okm_of (y := 232) (m := m_232) rfl (by decide +kernel) dc_232
  exact ⟨a, b, 0, mp_232⟩
theorem okm_233 : OK1 233 := by
  obtain ⟨a, b⟩ := okm_of (y := 233) (m := m_233) rfl (by decide +kernel) dc_233
  exact ⟨a, b, 0, mp_233⟩
theorem okm_234 : OK1 234 := by
  obtain ⟨a, b⟩ := okm_of (y := 234) (m := m_234) rfl (by decide +kernel) dc_234
  exact ⟨a, b, 0, mp_234⟩
theorem okm_235 : OK1 235 := by
  obtain ⟨a, b⟩ := okm_of (y := 235) (m := m_235) rfl (by decide +kernel) dc_235
  exact ⟨a, b, 3, mp_235⟩
theorem okm_236 : OK1 236 := by
  obtain ⟨a, b⟩ := okm_of (y := 236) (m := m_236) rfl (by decide +kernel) dc_236
  exact ⟨a, b, 1, mp_236⟩
theorem okm_237 : OK1 237 := by
  obtain ⟨a, b⟩ := okm_of (y := 237) (m := m_237) rfl (by decide +kernel) dc_237
  exact ⟨a, b, 0, mp_237⟩
theorem okm_238 : OK1 238 := by
  obtain ⟨a, b⟩ := okm_of (y := 238) (m := m_238) rfl (by decide +kernel) dc_238
  exact ⟨a, b, 0, mp_238⟩
theorem okm_239 : OK1 239 := by
  obtain ⟨a, b⟩ := okm_of (y := 239) (m := m_239) rfl (by decide +kernel) dc_239
  exact ⟨a, b, 0, mp_239⟩
theorem okm_240 : OK1 240 := by
  obtain ⟨a, b⟩ := okm_of (y := 240) (m := m_240) rfl (by decide +kernel) dc_240
  exact ⟨a, b, 1, mp_240⟩
theorem okm_241 : OK1 241 := by
  obtain ⟨a, b⟩ := okm_of (y := 241) (m := m_241) rfl (by decide +kernel) dc_241
  exact ⟨a, b, 0, mp_241⟩
theorem okm_247 : OK1 247 := by
  obtain ⟨a, b⟩ := okm_of (y := 247) (m := m_247) rfl (by decide +kernel) dc_247
  exact ⟨a, b, 0, mp_247⟩
theorem okm_248 : OK1 248 := by
  obtain ⟨a, b⟩ := okm_of (y := 248) (m := m_248) rfl (by decide +kernel) dc_248
  exact ⟨a, b, 1, mp_248⟩
theorem okm_249 : OK1 249 := by
  obtain ⟨a, b⟩ := okm_of (y := 249) (m := m_249) rfl (by decide +kernel) dc_249
  exact ⟨a, b, 0, mp_249⟩
theorem okm_250 : OK1 250 := by
  obtain ⟨a, b⟩ := okm_of (y := 250) (m := m_250) rfl (by decide +kernel) dc_250
  exact ⟨a, b, 0, mp_250⟩
theorem okm_251 : OK1 251 := by
  obtain ⟨a, b⟩ := okm_of (y := 251) (m := m_251) rfl (by decide +kernel) dc_251
  exact ⟨a, b, 2, mp_251⟩
theorem okm_252 : OK1 252 := by
  obtain ⟨a, b⟩ := okm_of (y := 252) (m := m_252) rfl (by decide +kernel) dc_252
  exact ⟨a, b, 2, mp_252⟩
theorem okm_253 : OK1 253 := by
  obtain ⟨a, b⟩ := okm_of (y := 253) (m := m_253) rfl (by decide +kernel) dc_253
  exact ⟨a, b, 3, mp_253⟩
def zs_0 : List Nat := [1, 2, 3, 4, 5, 6, 8, 9, 10, 11, 12, 13, 14, 15, 16, 17, 18, 19, 20, 21, 22, 23, 24, 25, 26, 27, 28, 29, 30, 31, 32, 33, 34, 35, 36, 37, 38, 39, 40, 41]
theorem oks_0 : ∀ z ∈ zs_0, OK1 z := List.forall_mem_cons.mpr ⟨okm_1, List.forall_mem_cons.mpr ⟨okm_2, List.forall_mem_cons.mpr ⟨okm_3, List.forall_mem_cons.mpr ⟨okm_4, List.forall_mem_cons.mpr ⟨okm_5, List.forall_mem_cons.mpr ⟨okm_6, List.forall_mem_cons.mpr ⟨okm_8, List.forall_mem_cons.mpr ⟨okm_9, List.forall_mem_cons.mpr ⟨okm_10, List.forall_mem_cons.mpr ⟨okm_11, List.forall_mem_cons.mpr ⟨okm_12, List.forall_mem_cons.mpr ⟨okm_13, List.forall_mem_cons.mpr ⟨okm_14, List.forall_mem_cons.mpr ⟨okm_15, List.forall_mem_cons.mpr ⟨okm_16, List.forall_mem_cons.mpr ⟨okm_17, List.forall_mem_cons.mpr ⟨okm_18, List.forall_mem_cons.mpr ⟨okm_19, List.forall_mem_cons.mpr ⟨okm_20, List.forall_mem_cons.mpr ⟨okm_21, List.forall_mem_cons.mpr ⟨okm_22, List.forall_mem_cons.mpr ⟨okm_23, List.forall_mem_cons.mpr ⟨okm_24, List.forall_mem_cons.mpr ⟨okm_25, List.forall_mem_cons.mpr ⟨okm_26, List.forall_mem_cons.mpr ⟨okm_27, List.forall_mem_cons.mpr ⟨okm_28, List.forall_mem_cons.mpr ⟨okm_29, List.forall_mem_cons.mpr ⟨okm_30, List.forall_mem_cons.mpr ⟨okm_31, List.forall_mem_cons.mpr ⟨okm_32, List.forall_mem_cons.mpr ⟨okm_33, List.forall_mem_cons.mpr ⟨okm_34, List.forall_mem_cons.mpr ⟨okm_35, List.forall_mem_cons.mpr ⟨okm_36, List.forall_mem_cons.mpr ⟨okm_37, List.forall_mem_cons.mpr ⟨okm_38, List.forall_mem_cons.mpr ⟨okm_39, List.forall_mem_cons.mpr ⟨okm_40, List.forall_mem_cons.mpr ⟨okm_41, fun _ h => absurd h List.not_mem_nil⟩⟩⟩⟩⟩⟩⟩⟩⟩⟩⟩⟩⟩⟩⟩⟩⟩⟩⟩⟩⟩⟩⟩⟩⟩⟩⟩⟩⟩⟩⟩⟩⟩⟩⟩⟩⟩⟩⟩⟩
def zs_1 : List Nat := [42, 43, 44, 45, 46, 47, 48, 49, 50, 51, 52, 53, 54, 55, 56, 57, 58, 59, 60, 61, 62, 63, 64, 65, 66, 67, 68, 69, 70, 71, 72, 73, 74, 75, 76, 77, 78, 79, 80, 81]
theorem oks_1 : ∀ z ∈ zs_1, OK1 z := List.forall_mem_cons.mpr ⟨okm_42, List.forall_mem_cons.mpr ⟨okm_43, List.forall_mem_cons.mpr ⟨okm_44, List.forall_mem_cons.mpr ⟨okm_45, List.forall_mem_cons.mpr ⟨okm_46, List.forall_mem_cons.mpr ⟨okm_47, List.forall_mem_cons.mpr ⟨okm_48, List.forall_mem_cons.mpr ⟨okm_49, List.forall_mem_cons.mpr ⟨okm_50, List.forall_mem_cons.mpr ⟨okm_51, List.forall_mem_cons.mpr ⟨okm_52, List.forall_mem_cons.mpr ⟨okm_53, List.forall_mem_cons.mpr ⟨okm_54, List.forall_mem_cons.mpr ⟨okm_55, List.forall_mem_cons.mpr ⟨okm_56, List.forall_mem_cons.mpr ⟨okm_57, List.forall_mem_cons.mpr ⟨okm_58, List.forall_mem_cons.mpr ⟨okm_59, List.forall_mem_cons.mpr ⟨okm_60, List.forall_mem_cons.mpr ⟨okm_61, List.forall_mem_cons.mpr ⟨okm_62, List.forall_mem_cons.mpr ⟨okm_63, List.forall_mem_cons.mpr ⟨okm_64, List.forall_mem_cons.mpr ⟨okm_65, List.forall_mem_cons.mpr ⟨okm_66, List.forall_mem_cons.mpr ⟨okm_67, List.forall_mem_cons.mpr ⟨okm_68, List.forall_mem_cons.mpr ⟨okm_69, List.forall_mem_cons.mpr ⟨okm_70, List.forall_mem_cons.mpr ⟨okm_71, List.forall_mem_cons.mpr ⟨okm_72, List.forall_mem_cons.mpr ⟨okm_73, List.forall_mem_cons.mpr ⟨okm_74, List.forall_mem_cons.mpr ⟨okm_75, List.forall_mem_cons.mpr ⟨okm_76, List.forall_mem_cons.mpr ⟨okm_77, List.forall_mem_cons.mpr ⟨okm_78, List.forall_mem_cons.mpr ⟨okm_79, List.forall_mem_cons.mpr ⟨okm_80, List.forall_mem_cons.mpr ⟨okm_81, fun _ h => absurd h List.not_mem_nil⟩⟩⟩⟩⟩⟩⟩⟩⟩⟩⟩⟩⟩⟩⟩⟩⟩⟩⟩⟩⟩⟩⟩⟩⟩⟩⟩⟩⟩⟩⟩⟩⟩⟩⟩⟩⟩⟩⟩⟩
def zs_2 : List Nat := [82, 83, 84, 85, 86, 87, 88, 89, 90, 91, 92, 93, 94, 95, 96, 97, 98, 99, 100, 101, 102, 103, 104, 105, 106, 107, 108, 109, 110, 111, 112, 113, 114, 115, 116, 117, 118, 119, 120, 121]
theorem oks_2 : ∀ z ∈ zs_2, OK1 z := List.forall_mem_cons.mpr ⟨okm_82, List.forall_mem_cons.mpr ⟨okm_83, List.forall_mem_cons.mpr ⟨okm_84, List.forall_mem_cons.mpr ⟨okm_85, List.forall_mem_cons.mpr ⟨okm_86, List.forall_mem_cons.mpr ⟨okm_87, List.forall_mem_cons.mpr ⟨okm_88, List.forall_mem_cons.mpr ⟨okm_89, List.forall_mem_cons.mpr ⟨okm_90, List.forall_mem_cons.mpr ⟨okm_91, List.forall_mem_cons.mpr ⟨okm_92, List.forall_mem_cons.mpr ⟨okm_93, List.forall_mem_cons.mpr ⟨okm_94, List.forall_mem_cons.mpr ⟨okm_95, List.forall_mem_cons.mpr ⟨okm_96, List.forall_mem_cons.mpr ⟨okm_97, List.forall_mem_cons.mpr ⟨okm_98, List.forall_mem_cons.mpr ⟨okm_99, List.forall_mem_cons.mpr ⟨okm_100, List.forall_mem_cons.mpr ⟨okm_101, List.forall_mem_cons.mpr ⟨okm_102, List.forall_mem_cons.mpr ⟨okm_103, List.forall_mem_cons.mpr ⟨okm_104, List.forall_mem_cons.mpr ⟨okm_105, List.forall_mem_cons.mpr ⟨okm_106, List.forall_mem_cons.mpr ⟨okm_107, List.forall_mem_cons.mpr ⟨okm_108, List.forall_mem_cons.mpr ⟨okm_109, List.forall_mem_cons.mpr ⟨okm_110, List.forall_mem_cons.mpr ⟨okm_111, List.forall_mem_cons.mpr ⟨okm_112, List.forall_mem_cons.mpr ⟨okm_113, List.forall_mem_cons.mpr ⟨okm_114, List.forall_mem_cons.mpr ⟨okm_115, List.forall_mem_cons.mpr ⟨okm_116, List.forall_mem_cons.mpr ⟨okm_117, List.forall_mem_cons.mpr ⟨okm_118, List.forall_mem_cons.mpr ⟨okm_119, List.forall_mem_cons.mpr ⟨okm_120, List.forall_mem_cons.mpr ⟨okm_121, fun _ h => absurd h List.not_mem_nil⟩⟩⟩⟩⟩⟩⟩⟩⟩⟩⟩⟩⟩⟩⟩⟩⟩⟩⟩⟩⟩⟩⟩⟩⟩⟩⟩⟩⟩⟩⟩⟩⟩⟩⟩⟩⟩⟩⟩⟩
def zs_3 : List Nat := [122, 123, 124, 125, 126, 127, 128, 129, 130, 131, 132, 133, 134, 135, 136, 137, 138, 139, 140, 141, 142, 143, 144, 145, 146, 147, 148, 149, 150, 151, 152, 153, 154, 155, 156, 157, 158, 159, 160, 161]
theorem oks_3 : ∀ z ∈ zs_3, OK1 z := List.forall_mem_cons.mpr ⟨okm_122, List.forall_mem_cons.mpr ⟨okm_123, List.forall_mem_cons.mpr ⟨okm_124, List.forall_mem_cons.mpr ⟨okm_125, List.forall_mem_cons.mpr ⟨okm_126, List.forall_mem_cons.mpr ⟨okm_127, List.forall_mem_cons.mpr ⟨okm_128, List.forall_mem_cons.mpr ⟨okm_129, List.forall_mem_cons.mpr ⟨okm_130, List.forall_mem_cons.mpr ⟨okm_131, List.forall_mem_cons.mpr ⟨okm_132, List.forall_mem_cons.mpr ⟨okm_133, List.forall_mem_cons.mpr ⟨okm_134, List.forall_mem_cons.mpr ⟨okm_135, List.forall_mem_cons.mpr ⟨okm_136, List.forall_mem_cons.mpr ⟨okm_137, List.forall_mem_cons.mpr ⟨okm_138, List.forall_mem_cons.mpr ⟨okm_139, List.forall_mem_cons.mpr ⟨okm_140, List.forall_mem_cons.mpr ⟨okm_141, List.forall_mem_cons.mpr ⟨okm_142, List.forall_mem_cons.mpr ⟨okm_143, List.forall_mem_cons.mpr ⟨okm_144, List.forall_mem_cons.mpr ⟨okm_145, List.forall_mem_cons.mpr ⟨okm_146, List.forall_mem_cons.mpr ⟨okm_147, List.forall_mem_cons.mpr ⟨okm_148, List.forall_mem_cons.mpr ⟨okm_149, List.forall_mem_cons.mpr ⟨okm_150, List.forall_mem_cons.mpr ⟨okm_151, List.forall_mem_cons.mpr ⟨okm_152, List.forall_mem_cons.mpr ⟨okm_153, List.forall_mem_cons.mpr ⟨okm_154, List.forall_mem_cons.mpr ⟨okm_155, List.forall_mem_cons.mpr ⟨okm_156, List.forall_mem_cons.mpr ⟨okm_157, List.forall_mem_cons.mpr ⟨okm_158, List.forall_mem_cons.mpr ⟨okm_159, List.forall_mem_cons.mpr ⟨okm_160, List.forall_mem_cons.mpr ⟨okm_161, fun _ h => absurd h List.not_mem_nil⟩⟩⟩⟩⟩⟩⟩⟩⟩⟩⟩⟩⟩⟩⟩⟩⟩⟩⟩⟩⟩⟩⟩⟩⟩⟩⟩⟩⟩⟩⟩⟩⟩⟩⟩⟩⟩⟩⟩⟩
def zs_4 : List Nat := [162, 163, 164, 165, 166, 167, 168, 169, 170, 171, 172, 173, 174, 175, 176, 177, 178, 179, 180, 181, 182, 183, 184, 185, 186, 187, 188, 189, 190, 191, 192, 193, 194, 195, 196, 197, 198, 199, 200, 201]
theorem oks_4 : ∀ z ∈ zs_4, OK1 z := List.forall_mem_cons.mpr ⟨okm_162, List.forall_mem_cons.mpr ⟨okm_163, List.forall_mem_cons.mpr ⟨okm_164, List.forall_mem_cons.mpr ⟨okm_165, List.forall_mem_cons.mpr ⟨okm_166, List.forall_mem_cons.mpr ⟨okm_167, List.forall_mem_cons.mpr ⟨okm_168, List.forall_mem_cons.mpr ⟨okm_169, List.forall_mem_cons.mpr ⟨okm_170, List.forall_mem_cons.mpr ⟨okm_171, List.forall_mem_cons.mpr ⟨okm_172, List.forall_mem_cons.mpr ⟨okm_173, List.forall_mem_cons.mpr ⟨okm_174, List.forall_mem_cons.mpr ⟨okm_175, List.forall_mem_cons.mpr ⟨okm_176, List.forall_mem_cons.mpr ⟨okm_177, List.forall_mem_cons.mpr ⟨okm_178, List.forall_mem_cons.mpr ⟨okm_179, List.forall_mem_cons.mpr ⟨okm_180, List.forall_mem_cons.mpr ⟨okm_181, List.forall_mem_cons.mpr ⟨okm_182, List.forall_mem_cons.mpr ⟨okm_183, List.forall_mem_cons.mpr ⟨okm_184, List.forall_mem_cons.mpr ⟨okm_185, List.forall_mem_cons.mpr ⟨okm_186, List.forall_mem_cons.mpr ⟨okm_187, List.forall_mem_cons.mpr ⟨okm_188, List.forall_mem_cons.mpr ⟨okm_189, List.forall_mem_cons.mpr ⟨okm_190, List.forall_mem_cons.mpr ⟨okm_191, List.forall_mem_cons.mpr ⟨okm_192, List.forall_mem_cons.mpr ⟨okm_193, List.forall_mem_cons.mpr ⟨okm_194, List.forall_mem_cons.mpr ⟨okm_195, List.forall_mem_cons.mpr ⟨okm_196, List.forall_mem_cons.mpr ⟨okm_197, List.forall_mem_cons.mpr ⟨okm_198, List.forall_mem_cons.mpr ⟨okm_199, List.forall_mem_cons.mpr ⟨okm_200, List.forall_mem_cons.mpr ⟨okm_201, fun _ h => absurd h List.not_mem_nil⟩⟩⟩⟩⟩⟩⟩⟩⟩⟩⟩⟩⟩⟩⟩⟩⟩⟩⟩⟩⟩⟩⟩⟩⟩⟩⟩⟩⟩⟩⟩⟩⟩⟩⟩⟩⟩⟩⟩⟩
def zs_5 : List Nat := [202, 203, 204, 205, 206, 207, 208, 209, 210, 211, 212, 213, 214, 215, 216, 217, 218, 219, 220, 221, 222, 223, 224, 225, 226, 227, 228, 229, 230, 231, 232, 233, 234, 235, 236, 237, 238, 239, 240, 241]
theorem oks_5 : ∀ z ∈ zs_5, OK1 z := List.forall_mem_cons.mpr ⟨okm_202, List.forall_mem_cons.mpr ⟨okm_203, List.forall_mem_cons.mpr ⟨okm_204, List.forall_mem_cons.mpr ⟨okm_205, List.forall_mem_cons.mpr ⟨okm_206, List.forall_mem_cons.mpr ⟨okm_207, List.forall_mem_cons.mpr ⟨okm_208, List.forall_mem_cons.mpr ⟨okm_209, List.forall_mem_cons.mpr ⟨okm_210, List.forall_mem_cons.mpr ⟨okm_211, List.forall_mem_cons.mpr ⟨okm_212, List.forall_mem_cons.mpr ⟨okm_213, List.forall_mem_cons.mpr ⟨okm_214, List.forall_mem_cons.mpr ⟨okm_215, List.forall_mem_cons.mpr ⟨okm_216, List.forall_mem_cons.mpr ⟨okm_217, List.forall_mem_cons.mpr ⟨okm_218, List.forall_mem_cons.mpr ⟨okm_219, List.forall_mem_cons.mpr ⟨okm_220, List.forall_mem_cons.mpr ⟨okm_221, List.forall_mem_cons.mpr ⟨okm_222, List.forall_mem_cons.mpr ⟨okm_223, List.forall_mem_cons.mpr ⟨okm_224, List.forall_mem_cons.mpr ⟨okm_225, List.forall_mem_cons.mpr ⟨okm_226, List.forall_mem_cons.mpr ⟨okm_227, List.forall_mem_cons.mpr ⟨okm_228, List.forall_mem_cons.mpr ⟨okm_229, List.forall_mem_cons.mpr ⟨okm_230, List.forall_mem_cons.mpr ⟨okm_231, List.forall_mem_cons.mpr ⟨okm_232, List.forall_mem_cons.mpr ⟨okm_233, List.forall_mem_cons.mpr ⟨okm_234, List.forall_mem_cons.mpr ⟨okm_235, List.forall_mem_cons.mpr ⟨okm_236, List.forall_mem_cons.mpr ⟨okm_237, List.forall_mem_cons.mpr ⟨okm_238, List.forall_mem_cons.mpr ⟨okm_239, List.forall_mem_cons.mpr ⟨okm_240, List.forall_mem_cons.mpr ⟨okm_241, fun _ h => absurd h List.not_mem_nil⟩⟩⟩⟩⟩⟩⟩⟩⟩⟩⟩⟩⟩⟩⟩⟩⟩⟩⟩⟩⟩⟩⟩⟩⟩⟩⟩⟩⟩⟩⟩⟩⟩⟩⟩⟩⟩⟩⟩⟩
def zs_6 : List Nat := [247, 248, 249, 250, 251, 252, 253]
theorem oks_6 : ∀ z ∈ zs_6, OK1 z := List.forall_mem_cons.mpr ⟨okm_247, List.forall_mem_cons.mpr ⟨okm_248, List.forall_mem_cons.mpr ⟨okm_249, List.forall_mem_cons.mpr ⟨okm_250, List.forall_mem_cons.mpr ⟨okm_251, List.forall_mem_cons.mpr ⟨okm_252, List.forall_mem_cons.mpr ⟨okm_253, fun _ h => absurd h List.not_mem_nil⟩⟩⟩⟩⟩⟩⟩
def ZS : List Nat := zs_0 ++ (zs_1 ++ (zs_2 ++ (zs_3 ++ (zs_4 ++ (zs_5 ++ (zs_6))))))
theorem OK_all : ∀ z ∈ ZS, OK1 z := by
  intro z hz
  unfold ZS at hz
  simp only [List.mem_append] at hz
  rcases hz with hz | hz | hz | hz | hz | hz | hz
  · exact oks_0 z hz
  · exact oks_1 z hz
  · exact oks_2 z hz
  · exact oks_3 z hz
  · exact oks_4 z hz
  · exact oks_5 z hz
  · exact oks_6 z hz
theorem zs_dec : (List.range 254).all (fun z => z == 7 || (z == 0 || (decide (242 ≤ z ∧ z ≤ 246) || ZS.contains z))) = true := by decide +kernel
theorem hAll_ok : ∀ z, z < 254 → z ≠ 7 → z ≠ 0 → (z < 242 ∨ 246 < z) → OKM z ∧ noX z ∧ ∃ np, MP z np := by
  intro z a b c d
  have k := List.all_eq_true.mp zs_dec z (List.mem_range.mpr a)
  simp only [Bool.or_eq_true, beq_iff_eq, decide_eq_true_eq] at k
  rcases k with k | k | k | k
  · exact absurd k b
  · exact absurd k c
  · omega
  · exact OK_all z (List.contains_iff_mem.mp k)
theorem hlen_ok : ∀ z en, cd z 0 = some en → z < 255 := by
  intro z en h
  unfold cd at h
  by_cases q : z < 255
  · exact q
  · rw [List.getElem?_eq_none (by rw [show MCs.length = 255 from (by decide +kernel)]; omega)] at h
    cases h
theorem ok_0 : m_0.all (fun q => okE 0 q.1 q.2 && noC q.2) = true := by decide +kernel
theorem okm_0 : OKM 0 := by
  intro pc en h
  have hm : (pc, en) ∈ m_0 := lookup_mem h
  have a1 := List.all_eq_true.mp ok_0 _ hm
  have a2 := of_decide_eq_true (List.all_eq_true.mp dc_0 _ hm)
  rw [Bool.and_eq_true] at a1
  exact ⟨a1.1, a2, a1.2⟩
