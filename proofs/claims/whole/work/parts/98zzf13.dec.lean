theorem dc_0_0 : m_0_0.all (fun q => decide (decode (yB 0) q.1 = .ok (q.2.1, q.2.2.1))) = true := by decide +kernel
theorem dc_0_1 : m_0_1.all (fun q => decide (decode (yB 0) q.1 = .ok (q.2.1, q.2.2.1))) = true := by decide +kernel
theorem dc_0_2 : m_0_2.all (fun q => decide (decode (yB 0) q.1 = .ok (q.2.1, q.2.2.1))) = true := by decide +kernel
theorem dc_0_3 : m_0_3.all (fun q => decide (decode (yB 0) q.1 = .ok (q.2.1, q.2.2.1))) = true := by decide +kernel
theorem dc_0_4 : m_0_4.all (fun q => decide (decode (yB 0) q.1 = .ok (q.2.1, q.2.2.1))) = true := by decide +kernel
theorem dc_0_5 : m_0_5.all (fun q => decide (decode (yB 0) q.1 = .ok (q.2.1, q.2.2.1))) = true := by decide +kernel
theorem dc_0_6 : m_0_6.all (fun q => decide (decode (yB 0) q.1 = .ok (q.2.1, q.2.2.1))) = true := by decide +kernel
theorem dc_0_7 : m_0_7.all (fun q => decide (decode (yB 0) q.1 = .ok (q.2.1, q.2.2.1))) = true := by decide +kernel
theorem dc_0_8 : m_0_8.all (fun q => decide (decode (yB 0) q.1 = .ok (q.2.1, q.2.2.1))) = true := by decide +kernel
theorem dc_0_9 : m_0_9.all (fun q => decide (decode (yB 0) q.1 = .ok (q.2.1, q.2.2.1))) = true := by decide +kernel
theorem dc_0_10 : m_0_10.all (fun q => decide (decode (yB 0) q.1 = .ok (q.2.1, q.2.2.1))) = true := by decide +kernel
theorem dc_0 : m_0.all (fun q => decide (decode (yB 0) q.1 = .ok (q.2.1, q.2.2.1))) = true := (by unfold m_0; rw [List.all_append, Bool.and_eq_true]; exact ⟨dc_0_0, (by  rw [List.all_append, Bool.and_eq_true]; exact ⟨dc_0_1, (by  rw [List.all_append, Bool.and_eq_true]; exact ⟨dc_0_2, (by  rw [List.all_append, Bool.and_eq_true]; exact ⟨dc_0_3, (by  rw [List.all_append, Bool.and_eq_true]; exact ⟨dc_0_4, (by  rw [List.all_append, Bool.and_eq_true]; exact ⟨dc_0_5, (by  rw [List.all_append, Bool.and_eq_true]; exact ⟨dc_0_6, (by  rw [List.all_append, Bool.and_eq_true]; exact ⟨dc_0_7, (by  rw [List.all_append, Bool.and_eq_true]; exact ⟨dc_0_8, (by  rw [List.all_append, Bool.and_eq_true]; exact ⟨dc_0_9, dc_0_10⟩)⟩)⟩)⟩)⟩)⟩)⟩)⟩)⟩)⟩)
theorem dc_1_0 : m_1_0.all (fun q => decide (decode (yB 1) q.1 = .ok (q.2.1, q.2.2.1))) = true := by decide +kernel
theorem dc_1_1 : m_1_1.all (fun q => decide (decode (yB 1) q.1 = .ok (q.2.1, q.2.2.1))) = true := by decide +kernel
theorem dc_1 : m_1.all (fun q => decide (decode (yB 1) q.1 = .ok (q.2.1, q.2.2.1))) = true := (by unfold m_1; rw [List.all_append, Bool.and_eq_true]; exact ⟨dc_1_0, dc_1_1⟩)
theorem dc_2_0 : m_2.all (fun q => decide (decode (yB 2) q.1 = .ok (q.2.1, q.2.2.1))) = true := by decide +kernel
theorem dc_2 : m_2.all (fun q => decide (decode (yB 2) q.1 = .ok (q.2.1, q.2.2.1))) = true := dc_2_0
theorem dc_3_0 : m_3.all (fun q => decide (decode (yB 3) q.1 = .ok (q.2.1, q.2.2.1))) = true := by decide +kernel
theorem dc_3 : m_3.all (fun q => decide (decode (yB 3) q.1 = .ok (q.2.1, q.2.2.1))) = true := dc_3_0
theorem dc_4_0 : m_4.all (fun q => decide (decode (yB 4) q.1 = .ok (q.2.1, q.2.2.1))) = true := by decide +kernel
theorem dc_4 : m_4.all (fun q => decide (decode (yB 4) q.1 = .ok (q.2.1, q.2.2.1))) = true := dc_4_0
theorem dc_5_0 : m_5.all (fun q => decide (decode (yB 5) q.1 = .ok (q.2.1, q.2.2.1))) = true := by decide +kernel
theorem dc_5 : m_5.all (fun q => decide (decode (yB 5) q.1 = .ok (q.2.1, q.2.2.1))) = true := dc_5_0
theorem dc_6_0 : m_6.all (fun q => decide (decode (yB 6) q.1 = .ok (q.2.1, q.2.2.1))) = true := by decide +kernel
theorem dc_6 : m_6.all (fun q => decide (decode (yB 6) q.1 = .ok (q.2.1, q.2.2.1))) = true := dc_6_0
theorem dc_7_0 : m_7.all (fun q => decide (decode (yB 7) q.1 = .ok (q.2.1, q.2.2.1))) = true := by decide +kernel
theorem dc_7 : m_7.all (fun q => decide (decode (yB 7) q.1 = .ok (q.2.1, q.2.2.1))) = true := dc_7_0
theorem dc_8_0 : m_8.all (fun q => decide (decode (yB 8) q.1 = .ok (q.2.1, q.2.2.1))) = true := by decide +kernel
theorem dc_8 : m_8.all (fun q => decide (decode (yB 8) q.1 = .ok (q.2.1, q.2.2.1))) = true := dc_8_0
theorem dc_9_0 : m_9.all (fun q => decide (decode (yB 9) q.1 = .ok (q.2.1, q.2.2.1))) = true := by decide +kernel
theorem dc_9 : m_9.all (fun q => decide (decode (yB 9) q.1 = .ok (q.2.1, q.2.2.1))) = true := dc_9_0
theorem dc_10_0 : m_10_0.all (fun q => decide (decode (yB 10) q.1 = .ok (q.2.1, q.2.2.1))) = true := by decide +kernel
theorem dc_10_1 : m_10_1.all (fun q => decide (decode (yB 10) q.1 = .ok (q.2.1, q.2.2.1))) = true := by decide +kernel
theorem dc_10 : m_10.all (fun q => decide (decode (yB 10) q.1 = .ok (q.2.1, q.2.2.1))) = true := (by unfold m_10; rw [List.all_append, Bool.and_eq_true]; exact ⟨dc_10_0, dc_10_1⟩)
theorem dc_11_0 : m_11.all (fun q => decide (decode (yB 11) q.1 = .ok (q.2.1, q.2.2.1))) = true := by decide +kernel
theorem dc_11 : m_11.all (fun q => decide (decode (yB 11) q.1 = .ok (q.2.1, q.2.2.1))) = true := dc_11_0
theorem dc_12_0 : m_12.all (fun q => decide (decode (yB 12) q.1 = .ok (q.2.1, q.2.2.1))) = true := by decide +kernel
theorem dc_12 : m_12.all (fun q => decide (decode (yB 12) q.1 = .ok (q.2.1, q.2.2.1))) = true := dc_12_0
theorem dc_13_0 : m_13.all (fun q => decide (decode (yB 13) q.1 = .ok (q.2.1, q.2.2.1))) = true := by decide +kernel
theorem dc_13 : m_13.all (fun q => decide (decode (yB 13) q.1 = .ok (q.2.1, q.2.2.1))) = true := dc_13_0
theorem dc_14_0 : m_14.all (fun q => decide (decode (yB 14) q.1 = .ok (q.2.1, q.2.2.1))) = true := by decide +kernel
theorem dc_14 : m_14.all (fun q => decide (decode (yB 14) q.1 = .ok (q.2.1, q.2.2.1))) = true := dc_14_0
theorem dc_15_0 : m_15.all (fun q => decide (decode (yB 15) q.1 = .ok (q.2.1, q.2.2.1))) = true := by decide +kernel
theorem dc_15 : m_15.all (fun q => decide (decode (yB 15) q.1 = .ok (q.2.1, q.2.2.1))) = true := dc_15_0
theorem dc_16_0 : m_16_0.all (fun q => decide (decode (yB 16) q.1 = .ok (q.2.1, q.2.2.1))) = true := by decide +kernel
theorem dc_16_1 : m_16_1.all (fun q => decide (decode (yB 16) q.1 = .ok (q.2.1, q.2.2.1))) = true := by decide +kernel
theorem dc_16 : m_16.all (fun q => decide (decode (yB 16) q.1 = .ok (q.2.1, q.2.2.1))) = true := (by unfold m_16; rw [List.all_append, Bool.and_eq_true]; exact ⟨dc_16_0, dc_16_1⟩)
theorem dc_17_0 : m_17.all (fun q => decide (decode (yB 17) q.1 = .ok (q.2.1, q.2.2.1))) = true := by decide +kernel
theorem dc_17 : m_17.all (fun q => decide (decode (yB 17) q.1 = .ok (q.2.1, q.2.2.1))) = true := dc_17_0
theorem dc_18_0 : m_18.all (fun q => decide (decode (yB 18) q.1 = .ok (q.2.1, q.2.2.1))) = true := by decide +kernel
theorem dc_18 : m_18.all (fun q => decide (decode (yB 18) q.1 = .ok (q.2.1, q.2.2.1))) = true := dc_18_0
theorem dc_19_0 : m_19.all (fun q => decide (decode (yB 19) q.1 = .ok (q.2.1, q.2.2.1))) = true := by decide +kernel
theorem dc_19 : m_19.all (fun q => decide (decode (yB 19) q.1 = .ok (q.2.1, q.2.2.1))) = true := dc_19_0
theorem dc_20_0 : m_20.all (fun q => decide (decode (yB 20) q.1 = .ok (q.2.1, q.2.2.1))) = true := by decide +kernel
theorem dc_20 : m_20.all (fun q => decide (decode (yB 20) q.1 = .ok (q.2.1, q.2.2.1))) = true := dc_20_0
theorem dc_21_0 : m_21.all (fun q => decide (decode (yB 21) q.1 = .ok (q.2.1, q.2.2.1))) = true := by decide +kernel
theorem dc_21 : m_21.all (fun q => decide (decode (yB 21) q.1 = .ok (q.2.1, q.2.2.1))) = true := dc_21_0
theorem dc_22_0 : m_22.all (fun q => decide (decode (yB 22) q.1 = .ok (q.2.1, q.2.2.1))) = true := by decide +kernel
theorem dc_22 : m_22.all (fun q => decide (decode (yB 22) q.1 = .ok (q.2.1, q.2.2.1))) = true := dc_22_0
theorem dc_23_0 : m_23.all (fun q => decide (decode (yB 23) q.1 = .ok (q.2.1, q.2.2.1))) = true := by decide +kernel
theorem dc_23 : m_23.all (fun q => decide (decode (yB 23) q.1 = .ok (q.2.1, q.2.2.1))) = true := dc_23_0
theorem dc_24_0 : m_24.all (fun q => decide (decode (yB 24) q.1 = .ok (q.2.1, q.2.2.1))) = true := by decide +kernel
theorem dc_24 : m_24.all (fun q => decide (decode (yB 24) q.1 = .ok (q.2.1, q.2.2.1))) = true := dc_24_0
theorem dc_25_0 : m_25.all (fun q => decide (decode (yB 25) q.1 = .ok (q.2.1, q.2.2.1))) = true := by decide +kernel
theorem dc_25 : m_25.all (fun q => decide (decode (yB 25) q.1 = .ok (q.2.1, q.2.2.1))) = true := dc_25_0
theorem dc_26_0 : m_26.all (fun q => decide (decode (yB 26) q.1 = .ok (q.2.1, q.2.2.1))) = true := by decide +kernel
theorem dc_26 : m_26.all (fun q => decide (decode (yB 26) q.1 = .ok (q.2.1, q.2.2.1))) = true := dc_26_0
theorem dc_27_0 : m_27.all (fun q => decide (decode (yB 27) q.1 = .ok (q.2.1, q.2.2.1))) = true := by decide +kernel
theorem dc_27 : m_27.all (fun q => decide (decode (yB 27) q.1 = .ok (q.2.1, q.2.2.1))) = true := dc_27_0
theorem dc_28_0 : m_28.all (fun q => decide (decode (yB 28) q.1 = .ok (q.2.1, q.2.2.1))) = true := by decide +kernel
theorem dc_28 : m_28.all (fun q => decide (decode (yB 28) q.1 = .ok (q.2.1, q.2.2.1))) = true := dc_28_0
theorem dc_29_0 : m_29.all (fun q => decide (decode (yB 29) q.1 = .ok (q.2.1, q.2.2.1))) = true := by decide +kernel
theorem dc_29 : m_29.all (fun q => decide (decode (yB 29) q.1 = .ok (q.2.1, q.2.2.1))) = true := dc_29_0
theorem dc_30_0 : m_30.all (fun q => decide (decode (yB 30) q.1 = .ok (q.2.1, q.2.2.1))) = true := by decide +kernel
theorem dc_30 : m_30.all (fun q => decide (decode (yB 30) q.1 = .ok (q.2.1, q.2.2.1))) = true := dc_30_0
theorem dc_31_0 : m_31.all (fun q => decide (decode (yB 31) q.1 = .ok (q.2.1, q.2.2.1))) = true := by decide +kernel
theorem dc_31 : m_31.all (fun q => decide (decode (yB 31) q.1 = .ok (q.2.1, q.2.2.1))) = true := dc_31_0
theorem dc_32_0 : m_32.all (fun q => decide (decode (yB 32) q.1 = .ok (q.2.1, q.2.2.1))) = true := by decide +kernel
theorem dc_32 : m_32.all (fun q => decide (decode (yB 32) q.1 = .ok (q.2.1, q.2.2.1))) = true := dc_32_0
theorem dc_33_0 : m_33.all (fun q => decide (decode (yB 33) q.1 = .ok (q.2.1, q.2.2.1))) = true := by decide +kernel
theorem dc_33 : m_33.all (fun q => decide (decode (yB 33) q.1 = .ok (q.2.1, q.2.2.1))) = true := dc_33_0
theorem dc_34_0 : m_34_0.all (fun q => decide (decode (yB 34) q.1 = .ok (q.2.1, q.2.2.1))) = true := by decide +kernel
theorem dc_34_1 : m_34_1.all (fun q => decide (decode (yB 34) q.1 = .ok (q.2.1, q.2.2.1))) = true := by decide +kernel
theorem dc_34 : m_34.all (fun q => decide (decode (yB 34) q.1 = .ok (q.2.1, q.2.2.1))) = true := (by unfold m_34; rw [List.all_append, Bool.and_eq_true]; exact ⟨dc_34_0, dc_34_1⟩)
theorem dc_35_0 : m_35.all (fun q => decide (decode (yB 35) q.1 = .ok (q.2.1, q.2.2.1))) = true := by decide +kernel
theorem dc_35 : m_35.all (fun q => decide (decode (yB 35) q.1 = .ok (q.2.1, q.2.2.1))) = true := dc_35_0
theorem dc_36_0 : m_36_0.all (fun q => decide (decode (yB 36) q.1 = .ok (q.2.1, q.2.2.1))) = true := by decide +kernel
theorem dc_36_1 : m_36_1.all (fun q => decide (decode (yB 36) q.1 = .ok (q.2.1, q.2.2.1))) = true := by decide +kernel
theorem dc_36 : m_36.all (fun q => decide (decode (yB 36) q.1 = .ok (q.2.1, q.2.2.1))) = true := (by unfold m_36; rw [List.all_append, Bool.and_eq_true]; exact ⟨dc_36_0, dc_36_1⟩)
theorem dc_37_0 : m_37_0.all (fun q => decide (decode (yB 37) q.1 = .ok (q.2.1, q.2.2.1))) = true := by decide +kernel
theorem dc_37_1 : m_37_1.all (fun q => decide (decode (yB 37) q.1 = .ok (q.2.1, q.2.2.1))) = true := by decide +kernel
theorem dc_37 : m_37.all (fun q => decide (decode (yB 37) q.1 = .ok (q.2.1, q.2.2.1))) = true := (by unfold m_37; rw [List.all_append, Bool.and_eq_true]; exact ⟨dc_37_0, dc_37_1⟩)
theorem dc_38_0 : m_38.all (fun q => decide (decode (yB 38) q.1 = .ok (q.2.1, q.2.2.1))) = true := by decide +kernel
theorem dc_38 : m_38.all (fun q => decide (decode (yB 38) q.1 = .ok (q.2.1, q.2.2.1))) = true := dc_38_0
theorem dc_39_0 : m_39.all (fun q => decide (decode (yB 39) q.1 = .ok (q.2.1, q.2.2.1))) = true := by decide +kernel
theorem dc_39 : m_39.all (fun q => decide (decode (yB 39) q.1 = .ok (q.2.1, q.2.2.1))) = true := dc_39_0
theorem dc_40_0 : m_40.all (fun q => decide (decode (yB 40) q.1 = .ok (q.2.1, q.2.2.1))) = true := by decide +kernel
theorem dc_40 : m_40.all (fun q => decide (decode (yB 40) q.1 = .ok (q.2.1, q.2.2.1))) = true := dc_40_0
theorem dc_41_0 : m_41.all (fun q => decide (decode (yB 41) q.1 = .ok (q.2.1, q.2.2.1))) = true := by decide +kernel
theorem dc_41 : m_41.all (fun q => decide (decode (yB 41) q.1 = .ok (q.2.1, q.2.2.1))) = true := dc_41_0
theorem dc_42_0 : m_42.all (fun q => decide (decode (yB 42) q.1 = .ok (q.2.1, q.2.2.1))) = true := by decide +kernel
theorem dc_42 : m_42.all (fun q => decide (decode (yB 42) q.1 = .ok (q.2.1, q.2.2.1))) = true := dc_42_0
theorem dc_43_0 : m_43_0.all (fun q => decide (decode (yB 43) q.1 = .ok (q.2.1, q.2.2.1))) = true := by decide +kernel
theorem dc_43_1 : m_43_1.all (fun q => decide (decode (yB 43) q.1 = .ok (q.2.1, q.2.2.1))) = true := by decide +kernel
theorem dc_43 : m_43.all (fun q => decide (decode (yB 43) q.1 = .ok (q.2.1, q.2.2.1))) = true := (by unfold m_43; rw [List.all_append, Bool.and_eq_true]; exact ⟨dc_43_0, dc_43_1⟩)
theorem dc_44_0 : m_44.all (fun q => decide (decode (yB 44) q.1 = .ok (q.2.1, q.2.2.1))) = true := by decide +kernel
theorem dc_44 : m_44.all (fun q => decide (decode (yB 44) q.1 = .ok (q.2.1, q.2.2.1))) = true := dc_44_0
theorem dc_45_0 : m_45_0.all (fun q => decide (decode (yB 45) q.1 = .ok (q.2.1, q.2.2.1))) = true := by decide +kernel
theorem dc_45_1 : m_45_1.all (fun q => decide (decode (yB 45) q.1 = .ok (q.2.1, q.2.2.1))) = true := by decide +kernel
theorem dc_45 : m_45.all (fun q => decide (decode (yB 45) q.1 = .ok (q.2.1, q.2.2.1))) = true := (by unfold m_45; rw [List.all_append, Bool.and_eq_true]; exact ⟨dc_45_0, dc_45_1⟩)
theorem dc_46_0 : m_46.all (fun q => decide (decode (yB 46) q.1 = .ok (q.2.1, q.2.2.1))) = true := by decide +kernel
theorem dc_46 : m_46.all (fun q => decide (decode (yB 46) q.1 = .ok (q.2.1, q.2.2.1))) = true := dc_46_0
theorem dc_47_0 : m_47_0.all (fun q => decide (decode (yB 47) q.1 = .ok (q.2.1, q.2.2.1))) = true := by decide +kernel
theorem dc_47_1 : m_47_1.all (fun q => decide (decode (yB 47) q.1 = .ok (q.2.1, q.2.2.1))) = true := by decide +kernel
theorem dc_47 : m_47.all (fun q => decide (decode (yB 47) q.1 = .ok (q.2.1, q.2.2.1))) = true := (by unfold m_47; rw [List.all_append, Bool.and_eq_true]; exact ⟨dc_47_0, dc_47_1⟩)
theorem dc_48_0 : m_48.all (fun q => decide (decode (yB 48) q.1 = .ok (q.2.1, q.2.2.1))) = true := by decide +kernel
theorem dc_48 : m_48.all (fun q => decide (decode (yB 48) q.1 = .ok (q.2.1, q.2.2.1))) = true := dc_48_0
theorem dc_49_0 : m_49_0.all (fun q => decide (decode (yB 49) q.1 = .ok (q.2.1, q.2.2.1))) = true := by decide +kernel
theorem dc_49_1 : m_49_1.all (fun q => decide (decode (yB 49) q.1 = .ok (q.2.1, q.2.2.1))) = true := by decide +kernel
theorem dc_49 : m_49.all (fun q => decide (decode (yB 49) q.1 = .ok (q.2.1, q.2.2.1))) = true := (by unfold m_49; rw [List.all_append, Bool.and_eq_true]; exact ⟨dc_49_0, dc_49_1⟩)
theorem dc_50_0 : m_50_0.all (fun q => decide (decode (yB 50) q.1 = .ok (q.2.1, q.2.2.1))) = true := by decide +kernel
theorem dc_50_1 : m_50_1.all (fun q => decide (decode (yB 50) q.1 = .ok (q.2.1, q.2.2.1))) = true := by decide +kernel
theorem dc_50 : m_50.all (fun q => decide (decode (yB 50) q.1 = .ok (q.2.1, q.2.2.1))) = true := (by unfold m_50; rw [List.all_append, Bool.and_eq_true]; exact ⟨dc_50_0, dc_50_1⟩)
theorem dc_51_0 : m_51.all (fun q => decide (decode (yB 51) q.1 = .ok (q.2.1, q.2.2.1))) = true := by decide +kernel
theorem dc_51 : m_51.all (fun q => decide (decode (yB 51) q.1 = .ok (q.2.1, q.2.2.1))) = true := dc_51_0
theorem dc_52_0 : m_52.all (fun q => decide (decode (yB 52) q.1 = .ok (q.2.1, q.2.2.1))) = true := by decide +kernel
theorem dc_52 : m_52.all (fun q => decide (decode (yB 52) q.1 = .ok (q.2.1, q.2.2.1))) = true := dc_52_0
theorem dc_53_0 : m_53.all (fun q => decide (decode (yB 53) q.1 = .ok (q.2.1, q.2.2.1))) = true := by decide +kernel
theorem dc_53 : m_53.all (fun q => decide (decode (yB 53) q.1 = .ok (q.2.1, q.2.2.1))) = true := dc_53_0
theorem dc_54_0 : m_54.all (fun q => decide (decode (yB 54) q.1 = .ok (q.2.1, q.2.2.1))) = true := by decide +kernel
theorem dc_54 : m_54.all (fun q => decide (decode (yB 54) q.1 = .ok (q.2.1, q.2.2.1))) = true := dc_54_0
theorem dc_55_0 : m_55.all (fun q => decide (decode (yB 55) q.1 = .ok (q.2.1, q.2.2.1))) = true := by decide +kernel
theorem dc_55 : m_55.all (fun q => decide (decode (yB 55) q.1 = .ok (q.2.1, q.2.2.1))) = true := dc_55_0
theorem dc_56_0 : m_56.all (fun q => decide (decode (yB 56) q.1 = .ok (q.2.1, q.2.2.1))) = true := by decide +kernel
theorem dc_56 : m_56.all (fun q => decide (decode (yB 56) q.1 = .ok (q.2.1, q.2.2.1))) = true := dc_56_0
theorem dc_57_0 : m_57.all (fun q => decide (decode (yB 57) q.1 = .ok (q.2.1, q.2.2.1))) = true := by decide +kernel
theorem dc_57 : m_57.all (fun q => decide (decode (yB 57) q.1 = .ok (q.2.1, q.2.2.1))) = true := dc_57_0
theorem dc_58_0 : m_58_0.all (fun q => decide (decode (yB 58) q.1 = .ok (q.2.1, q.2.2.1))) = true := by decide +kernel
theorem dc_58_1 : m_58_1.all (fun q => decide (decode (yB 58) q.1 = .ok (q.2.1, q.2.2.1))) = true := by decide +kernel
theorem dc_58 : m_58.all (fun q => decide (decode (yB 58) q.1 = .ok (q.2.1, q.2.2.1))) = true := (by unfold m_58; rw [List.all_append, Bool.and_eq_true]; exact ⟨dc_58_0, dc_58_1⟩)
theorem dc_59_0 : m_59_0.all (fun q => decide (decode (yB 59) q.1 = .ok (q.2.1, q.2.2.1))) = true := by decide +kernel
theorem dc_59_1 : m_59_1.all (fun q => decide (decode (yB 59) q.1 = .ok (q.2.1, q.2.2.1))) = true := by decide +kernel
theorem dc_59 : m_59.all (fun q => decide (decode (yB 59) q.1 = .ok (q.2.1, q.2.2.1))) = true := (by unfold m_59; rw [List.all_append, Bool.and_eq_true]; exact ⟨dc_59_0, dc_59_1⟩)
theorem dc_60_0 : m_60.all (fun q => decide (decode (yB 60) q.1 = .ok (q.2.1, q.2.2.1))) = true := by decide +kernel
theorem dc_60 : m_60.all (fun q => decide (decode (yB 60) q.1 = .ok (q.2.1, q.2.2.1))) = true := dc_60_0
theorem dc_61_0 : m_61.all (fun q => decide (decode (yB 61) q.1 = .ok (q.2.1, q.2.2.1))) = true := by decide +kernel
theorem dc_61 : m_61.all (fun q => decide (decode (yB 61) q.1 = .ok (q.2.1, q.2.2.1))) = true := dc_61_0
theorem dc_62_0 : m_62_0.all (fun q => decide (decode (yB 62) q.1 = .ok (q.2.1, q.2.2.1))) = true := by decide +kernel
theorem dc_62_1 : m_62_1.all (fun q => decide (decode (yB 62) q.1 = .ok (q.2.1, q.2.2.1))) = true := by decide +kernel
theorem dc_62 : m_62.all (fun q => decide (decode (yB 62) q.1 = .ok (q.2.1, q.2.2.1))) = true := (by unfold m_62; rw [List.all_append, Bool.and_eq_true]; exact ⟨dc_62_0, dc_62_1⟩)
theorem dc_63_0 : m_63.all (fun q => decide (decode (yB 63) q.1 = .ok (q.2.1, q.2.2.1))) = true := by decide +kernel
theorem dc_63 : m_63.all (fun q => decide (decode (yB 63) q.1 = .ok (q.2.1, q.2.2.1))) = true := dc_63_0
theorem dc_64_0 : m_64_0.all (fun q => decide (decode (yB 64) q.1 = .ok (q.2.1, q.2.2.1))) = true := by decide +kernel
theorem dc_64_1 : m_64_1.all (fun q => decide (decode (yB 64) q.1 = .ok (q.2.1, q.2.2.1))) = true := by decide +kernel
theorem dc_64 : m_64.all (fun q => decide (decode (yB 64) q.1 = .ok (q.2.1, q.2.2.1))) = true := (by unfold m_64; rw [List.all_append, Bool.and_eq_true]; exact ⟨dc_64_0, dc_64_1⟩)
theorem dc_65_0 : m_65.all (fun q => decide (decode (yB 65) q.1 = .ok (q.2.1, q.2.2.1))) = true := by decide +kernel
theorem dc_65 : m_65.all (fun q => decide (decode (yB 65) q.1 = .ok (q.2.1, q.2.2.1))) = true := dc_65_0
theorem dc_66_0 : m_66.all (fun q => decide (decode (yB 66) q.1 = .ok (q.2.1, q.2.2.1))) = true := by decide +kernel
theorem dc_66 : m_66.all (fun q => decide (decode (yB 66) q.1 = .ok (q.2.1, q.2.2.1))) = true := dc_66_0
theorem dc_67_0 : m_67.all (fun q => decide (decode (yB 67) q.1 = .ok (q.2.1, q.2.2.1))) = true := by decide +kernel
theorem dc_67 : m_67.all (fun q => decide (decode (yB 67) q.1 = .ok (q.2.1, q.2.2.1))) = true := dc_67_0
theorem dc_68_0 : m_68.all (fun q => decide (decode (yB 68) q.1 = .ok (q.2.1, q.2.2.1))) = true := by decide +kernel
theorem dc_68 : m_68.all (fun q => decide (decode (yB 68) q.1 = .ok (q.2.1, q.2.2.1))) = true := dc_68_0
theorem dc_69_0 : m_69.all (fun q => decide (decode (yB 69) q.1 = .ok (q.2.1, q.2.2.1))) = true := by decide +kernel
theorem dc_69 : m_69.all (fun q => decide (decode (yB 69) q.1 = .ok (q.2.1, q.2.2.1))) = true := dc_69_0
theorem dc_70_0 : m_70.all (fun q => decide (decode (yB 70) q.1 = .ok (q.2.1, q.2.2.1))) = true := by decide +kernel
theorem dc_70 : m_70.all (fun q => decide (decode (yB 70) q.1 = .ok (q.2.1, q.2.2.1))) = true := dc_70_0
theorem dc_71_0 : m_71.all (fun q => decide (decode (yB 71) q.1 = .ok (q.2.1, q.2.2.1))) = true := by decide +kernel
theorem dc_71 : m_71.all (fun q => decide (decode (yB 71) q.1 = .ok (q.2.1, q.2.2.1))) = true := dc_71_0
theorem dc_72_0 : m_72.all (fun q => decide (decode (yB 72) q.1 = .ok (q.2.1, q.2.2.1))) = true := by decide +kernel
theorem dc_72 : m_72.all (fun q => decide (decode (yB 72) q.1 = .ok (q.2.1, q.2.2.1))) = true := dc_72_0
theorem dc_73_0 : m_73.all (fun q => decide (decode (yB 73) q.1 = .ok (q.2.1, q.2.2.1))) = true := by decide +kernel
theorem dc_73 : m_73.all (fun q => decide (decode (yB 73) q.1 = .ok (q.2.1, q.2.2.1))) = true := dc_73_0
theorem dc_74_0 : m_74.all (fun q => decide (decode (yB 74) q.1 = .ok (q.2.1, q.2.2.1))) = true := by decide +kernel
theorem dc_74 : m_74.all (fun q => decide (decode (yB 74) q.1 = .ok (q.2.1, q.2.2.1))) = true := dc_74_0
theorem dc_75_0 : m_75.all (fun q => decide (decode (yB 75) q.1 = .ok (q.2.1, q.2.2.1))) = true := by decide +kernel
theorem dc_75 : m_75.all (fun q => decide (decode (yB 75) q.1 = .ok (q.2.1, q.2.2.1))) = true := dc_75_0
theorem dc_76_0 : m_76.all (fun q => decide (decode (yB 76) q.1 = .ok (q.2.1, q.2.2.1))) = true := by decide +kernel
theorem dc_76 : m_76.all (fun q => decide (decode (yB 76) q.1 = .ok (q.2.1, q.2.2.1))) = true := dc_76_0
theorem dc_77_0 : m_77.all (fun q => decide (decode (yB 77) q.1 = .ok (q.2.1, q.2.2.1))) = true := by decide +kernel
theorem dc_77 : m_77.all (fun q => decide (decode (yB 77) q.1 = .ok (q.2.1, q.2.2.1))) = true := dc_77_0
theorem dc_78_0 : m_78.all (fun q => decide (decode (yB 78) q.1 = .ok (q.2.1, q.2.2.1))) = true := by decide +kernel
theorem dc_78 : m_78.all (fun q => decide (decode (yB 78) q.1 = .ok (q.2.1, q.2.2.1))) = true := dc_78_0
theorem dc_79_0 : m_79.all (fun q => decide (decode (yB 79) q.1 = .ok (q.2.1, q.2.2.1))) = true := by decide +kernel
theorem dc_79 : m_79.all (fun q => decide (decode (yB 79) q.1 = .ok (q.2.1, q.2.2.1))) = true := dc_79_0
theorem dc_80_0 : m_80.all (fun q => decide (decode (yB 80) q.1 = .ok (q.2.1, q.2.2.1))) = true := by decide +kernel
theorem dc_80 : m_80.all (fun q => decide (decode (yB 80) q.1 = .ok (q.2.1, q.2.2.1))) = true := dc_80_0
theorem dc_81_0 : m_81.all (fun q => decide (decode (yB 81) q.1 = .ok (q.2.1, q.2.2.1))) = true := by decide +kernel
theorem dc_81 : m_81.all (fun q => decide (decode (yB 81) q.1 = .ok (q.2.1, q.2.2.1))) = true := dc_81_0
theorem dc_82_0 : m_82_0.all (fun q => decide (decode (yB 82) q.1 = .ok (q.2.1, q.2.2.1))) = true := by decide +kernel
theorem dc_82_1 : m_82_1.all (fun q => decide (decode (yB 82) q.1 = .ok (q.2.1, q.2.2.1))) = true := by decide +kernel
theorem dc_82_2 : m_82_2.all (fun q => decide (decode (yB 82) q.1 = .ok (q.2.1, q.2.2.1))) = true := by decide +kernel
theorem dc_82 : m_82.all (fun q => decide (decode (yB 82) q.1 = .ok (q.2.1, q.2.2.1))) = true := (by unfold m_82; rw [List.all_append, Bool.and_eq_true]; exact ⟨dc_82_0, (by  rw [List.all_append, Bool.and_eq_true]; exact ⟨dc_82_1, dc_82_2⟩)⟩)
theorem dc_83_0 : m_83_0.all (fun q => decide (decode (yB 83) q.1 = .ok (q.2.1, q.2.2.1))) = true := by decide +kernel
theorem dc_83_1 : m_83_1.all (fun q => decide (decode (yB 83) q.1 = .ok (q.2.1, q.2.2.1))) = true := by decide +kernel
theorem dc_83_2 : m_83_2.all (fun q => decide (decode (yB 83) q.1 = .ok (q.2.1, q.2.2.1))) = true := by decide +kernel
theorem dc_83 : m_83.all (fun q => decide (decode (yB 83) q.1 = .ok (q.2.1, q.2.2.1))) = true := (by unfold m_83; rw [List.all_append, Bool.and_eq_true]; exact ⟨dc_83_0, (by  rw [List.all_append, Bool.and_eq_true]; exact ⟨dc_83_1, dc_83_2⟩)⟩)
theorem dc_84_0 : m_84.all (fun q => decide (decode (yB 84) q.1 = .ok (q.2.1, q.2.2.1))) = true := by decide +kernel
theorem dc_84 : m_84.all (fun q => decide (decode (yB 84) q.1 = .ok (q.2.1, q.2.2.1))) = true := dc_84_0
theorem dc_85_0 : m_85_0.all (fun q => decide (decode (yB 85) q.1 = .ok (q.2.1, q.2.2.1))) = true := by decide +kernel
theorem dc_85_1 : m_85_1.all (fun q => decide (decode (yB 85) q.1 = .ok (q.2.1, q.2.2.1))) = true := by decide +kernel
theorem dc_85 : m_85.all (fun q => decide (decode (yB 85) q.1 = .ok (q.2.1, q.2.2.1))) = true := (by unfold m_85; rw [List.all_append, Bool.and_eq_true]; exact ⟨dc_85_0, dc_85_1⟩)
theorem dc_86_0 : m_86_0.all (fun q => decide (decode (yB 86) q.1 = .ok (q.2.1, q.2.2.1))) = true := by decide +kernel
theorem dc_86_1 : m_86_1.all (fun q => decide (decode (yB 86) q.1 = .ok (q.2.1, q.2.2.1))) = true := by decide +kernel
theorem dc_86 : m_86.all (fun q => decide (decode (yB 86) q.1 = .ok (q.2.1, q.2.2.1))) = true := (by unfold m_86; rw [List.all_append, Bool.and_eq_true]; exact ⟨dc_86_0, dc_86_1⟩)
theorem dc_87_0 : m_87.all (fun q => decide (decode (yB 87) q.1 = .ok (q.2.1, q.2.2.1))) = true := by decide +kernel
theorem dc_87 : m_87.all (fun q => decide (decode (yB 87) q.1 = .ok (q.2.1, q.2.2.1))) = true := dc_87_0
theorem dc_88_0 : m_88.all (fun q => decide (decode (yB 88) q.1 = .ok (q.2.1, q.2.2.1))) = true := by decide +kernel
theorem dc_88 : m_88.all (fun q => decide (decode (yB 88) q.1 = .ok (q.2.1, q.2.2.1))) = true := dc_88_0
theorem dc_89_0 : m_89.all (fun q => decide (decode (yB 89) q.1 = .ok (q.2.1, q.2.2.1))) = true := by decide +kernel
theorem dc_89 : m_89.all (fun q => decide (decode (yB 89) q.1 = .ok (q.2.1, q.2.2.1))) = true := dc_89_0
theorem dc_90_0 : m_90.all (fun q => decide (decode (yB 90) q.1 = .ok (q.2.1, q.2.2.1))) = true := by decide +kernel
theorem dc_90 : m_90.all (fun q => decide (decode (yB 90) q.1 = .ok (q.2.1, q.2.2.1))) = true := dc_90_0
theorem dc_91_0 : m_91.all (fun q => decide (decode (yB 91) q.1 = .ok (q.2.1, q.2.2.1))) = true := by decide +kernel
theorem dc_91 : m_91.all (fun q => decide (decode (yB 91) q.1 = .ok (q.2.1, q.2.2.1))) = true := dc_91_0
theorem dc_92_0 : m_92.all (fun q => decide (decode (yB 92) q.1 = .ok (q.2.1, q.2.2.1))) = true := by decide +kernel
theorem dc_92 : m_92.all (fun q => decide (decode (yB 92) q.1 = .ok (q.2.1, q.2.2.1))) = true := dc_92_0
theorem dc_93_0 : m_93.all (fun q => decide (decode (yB 93) q.1 = .ok (q.2.1, q.2.2.1))) = true := by decide +kernel
theorem dc_93 : m_93.all (fun q => decide (decode (yB 93) q.1 = .ok (q.2.1, q.2.2.1))) = true := dc_93_0
theorem dc_94_0 : m_94.all (fun q => decide (decode (yB 94) q.1 = .ok (q.2.1, q.2.2.1))) = true := by decide +kernel
theorem dc_94 : m_94.all (fun q => decide (decode (yB 94) q.1 = .ok (q.2.1, q.2.2.1))) = true := dc_94_0
theorem dc_95_0 : m_95.all (fun q => decide (decode (yB 95) q.1 = .ok (q.2.1, q.2.2.1))) = true := by decide +kernel
theorem dc_95 : m_95.all (fun q => decide (decode (yB 95) q.1 = .ok (q.2.1, q.2.2.1))) = true := dc_95_0
theorem dc_96_0 : m_96_0.all (fun q => decide (decode (yB 96) q.1 = .ok (q.2.1, q.2.2.1))) = true := by decide +kernel
theorem dc_96_1 : m_96_1.all (fun q => decide (decode (yB 96) q.1 = .ok (q.2.1, q.2.2.1))) = true := by decide +kernel
theorem dc_96 : m_96.all (fun q => decide (decode (yB 96) q.1 = .ok (q.2.1, q.2.2.1))) = true := (by unfold m_96; rw [List.all_append, Bool.and_eq_true]; exact ⟨dc_96_0, dc_96_1⟩)
theorem dc_97_0 : m_97.all (fun q => decide (decode (yB 97) q.1 = .ok (q.2.1, q.2.2.1))) = true := by decide +kernel
theorem dc_97 : m_97.all (fun q => decide (decode (yB 97) q.1 = .ok (q.2.1, q.2.2.1))) = true := dc_97_0
theorem dc_98_0 : m_98.all (fun q => decide (decode (yB 98) q.1 = .ok (q.2.1, q.2.2.1))) = true := by decide +kernel
theorem dc_98 : m_98.all (fun q => decide (decode (yB 98) q.1 = .ok (q.2.1, q.2.2.1))) = true := dc_98_0
theorem dc_99_0 : m_99.all (fun q => decide (decode (yB 99) q.1 = .ok (q.2.1, q.2.2.1))) = true := by decide +kernel
theorem dc_99 : m_99.all (fun q => decide (decode (yB 99) q.1 = .ok (q.2.1, q.2.2.1))) = true := dc_99_0
theorem dc_100_0 : m_100.all (fun q => decide (decode (yB 100) q.1 = .ok (q.2.1, q.2.2.1))) = true := by decide +kernel
theorem dc_100 : m_100.all (fun q => decide (decode (yB 100) q.1 = .ok (q.2.1, q.2.2.1))) = true := dc_100_0
theorem dc_101_0 : m_101.all (fun q => decide (decode (yB 101) q.1 = .ok (q.2.1, q.2.2.1))) = true := by decide +kernel
theorem dc_101 : m_101.all (fun q => decide (decode (yB 101) q.1 = .ok (q.2.1, q.2.2.1))) = true := dc_101_0
theorem dc_102_0 : m_102.all (fun q => decide (decode (yB 102) q.1 = .ok (q.2.1, q.2.2.1))) = true := by decide +kernel
theorem dc_102 : m_102.all (fun q => decide (decode (yB 102) q.1 = .ok (q.2.1, q.2.2.1))) = true := dc_102_0
theorem dc_103_0 : m_103.all (fun q => decide (decode (yB 103) q.1 = .ok (q.2.1, q.2.2.1))) = true := by decide +kernel
theorem dc_103 : m_103.all (fun q => decide (decode (yB 103) q.1 = .ok (q.2.1, q.2.2.1))) = true := dc_103_0
theorem dc_104_0 : m_104_0.all (fun q => decide (decode (yB 104) q.1 = .ok (q.2.1, q.2.2.1))) = true := by decide +kernel
theorem dc_104_1 : m_104_1.all (fun q => decide (decode (yB 104) q.1 = .ok (q.2.1, q.2.2.1))) = true := by decide +kernel
theorem dc_104 : m_104.all (fun q => decide (decode (yB 104) q.1 = .ok (q.2.1, q.2.2.1))) = true := (by unfold m_104; rw [List.all_append, Bool.and_eq_true]; exact ⟨dc_104_0, dc_104_1⟩)
theorem dc_105_0 : m_105.all (fun q => decide (decode (yB 105) q.1 = .ok (q.2.1, q.2.2.1))) = true := by decide +kernel
theorem dc_105 : m_105.all (fun q => decide (decode (yB 105) q.1 = .ok (q.2.1, q.2.2.1))) = true := dc_105_0
theorem dc_106_0 : m_106.all (fun q => decide (decode (yB 106) q.1 = .ok (q.2.1, q.2.2.1))) = true := by decide +kernel
theorem dc_106 : m_106.all (fun q => decide (decode (yB 106) q.1 = .ok (q.2.1, q.2.2.1))) = true := dc_106_0
theorem dc_107_0 : m_107.all (fun q => decide (decode (yB 107) q.1 = .ok (q.2.1, q.2.2.1))) = true := by decide +kernel
theorem dc_107 : m_107.all (fun q => decide (decode (yB 107) q.1 = .ok (q.2.1, q.2.2.1))) = true := dc_107_0
theorem dc_108_0 : m_108.all (fun q => decide (decode (yB 108) q.1 = .ok (q.2.1, q.2.2.1))) = true := by decide +kernel
theorem dc_108 : m_108.all (fun q => decide (decode (yB 108) q.1 = .ok (q.2.1, q.2.2.1))) = true := dc_108_0
theorem dc_109_0 : m_109_0.all (fun q => decide (decode (yB 109) q.1 = .ok (q.2.1, q.2.2.1))) = true := by decide +kernel
theorem dc_109_1 : m_109_1.all (fun q => decide (decode (yB 109) q.1 = .ok (q.2.1, q.2.2.1))) = true := by decide +kernel
theorem dc_109 : m_109.all (fun q => decide (decode (yB 109) q.1 = .ok (q.2.1, q.2.2.1))) = true := (by unfold m_109; rw [List.all_append, Bool.and_eq_true]; exact ⟨dc_109_0, dc_109_1⟩)
theorem dc_110_0 : m_110_0.all (fun q => decide (decode (yB 110) q.1 = .ok (q.2.1, q.2.2.1))) = true := by decide +kernel
theorem dc_110_1 : m_110_1.all (fun q => decide (decode (yB 110) q.1 = .ok (q.2.1, q.2.2.1))) = true := by decide +kernel
theorem dc_110 : m_110.all (fun q => decide (decode (yB 110) q.1 = .ok (q.2.1, q.2.2.1))) = true := (by unfold m_110; rw [List.all_append, Bool.and_eq_true]; exact ⟨dc_110_0, dc_110_1⟩)
theorem dc_111_0 : m_111.all (fun q => decide (decode (yB 111) q.1 = .ok (q.2.1, q.2.2.1))) = true := by decide +kernel
theorem dc_111 : m_111.all (fun q => decide (decode (yB 111) q.1 = .ok (q.2.1, q.2.2.1))) = true := dc_111_0
theorem dc_112_0 : m_112.all (fun q => decide (decode (yB 112) q.1 = .ok (q.2.1, q.2.2.1))) = true := by decide +kernel
theorem dc_112 : m_112.all (fun q => decide (decode (yB 112) q.1 = .ok (q.2.1, q.2.2.1))) = true := dc_112_0
theorem dc_113_0 : m_113.all (fun q => decide (decode (yB 113) q.1 = .ok (q.2.1, q.2.2.1))) = true := by decide +kernel
theorem dc_113 : m_113.all (fun q => decide (decode (yB 113) q.1 = .ok (q.2.1, q.2.2.1))) = true := dc_113_0
theorem dc_114_0 : m_114.all (fun q => decide (decode (yB 114) q.1 = .ok (q.2.1, q.2.2.1))) = true := by decide +kernel
theorem dc_114 : m_114.all (fun q => decide (decode (yB 114) q.1 = .ok (q.2.1, q.2.2.1))) = true := dc_114_0
theorem dc_115_0 : m_115.all (fun q => decide (decode (yB 115) q.1 = .ok (q.2.1, q.2.2.1))) = true := by decide +kernel
theorem dc_115 : m_115.all (fun q => decide (decode (yB 115) q.1 = .ok (q.2.1, q.2.2.1))) = true := dc_115_0
theorem dc_116_0 : m_116_0.all (fun q => decide (decode (yB 116) q.1 = .ok (q.2.1, q.2.2.1))) = true := by decide +kernel
theorem dc_116_1 : m_116_1.all (fun q => decide (decode (yB 116) q.1 = .ok (q.2.1, q.2.2.1))) = true := by decide +kernel
theorem dc_116 : m_116.all (fun q => decide (decode (yB 116) q.1 = .ok (q.2.1, q.2.2.1))) = true := (by unfold m_116; rw [List.all_append, Bool.and_eq_true]; exact ⟨dc_116_0, dc_116_1⟩)
theorem dc_117_0 : m_117_0.all (fun q => decide (decode (yB 117) q.1 = .ok (q.2.1, q.2.2.1))) = true := by decide +kernel
theorem dc_117_1 : m_117_1.all (fun q => decide (decode (yB 117) q.1 = .ok (q.2.1, q.2.2.1))) = true := by decide +kernel
theorem dc_117 : m_117.all (fun q => decide (decode (yB 117) q.1 = .ok (q.2.1, q.2.2.1))) = true := (by unfold m_117; rw [List.all_append, Bool.and_eq_true]; exact ⟨dc_117_0, dc_117_1⟩)
theorem dc_118_0 : m_118.all (fun q => decide (decode (yB 118) q.1 = .ok (q.2.1, q.2.2.1))) = true := by decide +kernel
theorem dc_118 : m_118.all (fun q => decide (decode (yB 118) q.1 = .ok (q.2.1, q.2.2.1))) = true := dc_118_0
theorem dc_119_0 : m_119_0.all (fun q => decide (decode (yB 119) q.1 = .ok (q.2.1, q.2.2.1))) = true := by decide +kernel
theorem dc_119_1 : m_119_1.all (fun q => decide (decode (yB 119) q.1 = .ok (q.2.1, q.2.2.1))) = true := by decide +kernel
theorem dc_119 : m_119.all (fun q => decide (decode (yB 119) q.1 = .ok (q.2.1, q.2.2.1))) = true := (by unfold m_119; rw [List.all_append, Bool.and_eq_true]; exact ⟨dc_119_0, dc_119_1⟩)
theorem dc_120_0 : m_120.all (fun q => decide (decode (yB 120) q.1 = .ok (q.2.1, q.2.2.1))) = true := by decide +kernel
theorem dc_120 : m_120.all (fun q => decide (decode (yB 120) q.1 = .ok (q.2.1, q.2.2.1))) = true := dc_120_0
theorem dc_121_0 : m_121_0.all (fun q => decide (decode (yB 121) q.1 = .ok (q.2.1, q.2.2.1))) = true := by decide +kernel
theorem dc_121_1 : m_121_1.all (fun q => decide (decode (yB 121) q.1 = .ok (q.2.1, q.2.2.1))) = true := by decide +kernel
theorem dc_121 : m_121.all (fun q => decide (decode (yB 121) q.1 = .ok (q.2.1, q.2.2.1))) = true := (by unfold m_121; rw [List.all_append, Bool.and_eq_true]; exact ⟨dc_121_0, dc_121_1⟩)
theorem dc_122_0 : m_122.all (fun q => decide (decode (yB 122) q.1 = .ok (q.2.1, q.2.2.1))) = true := by decide +kernel
theorem dc_122 : m_122.all (fun q => decide (decode (yB 122) q.1 = .ok (q.2.1, q.2.2.1))) = true := dc_122_0
theorem dc_123_0 : m_123.all (fun q => decide (decode (yB 123) q.1 = .ok (q.2.1, q.2.2.1))) = true := by decide +kernel
theorem dc_123 : m_123.all (fun q => decide (decode (yB 123) q.1 = .ok (q.2.1, q.2.2.1))) = true := dc_123_0
theorem dc_124_0 : m_124.all (fun q => decide (decode (yB 124) q.1 = .ok (q.2.1, q.2.2.1))) = true := by decide +kernel
theorem dc_124 : m_124.all (fun q => decide (decode (yB 124) q.1 = .ok (q.2.1, q.2.2.1))) = true := dc_124_0
theorem dc_125_0 : m_125.all (fun q => decide (decode (yB 125) q.1 = .ok (q.2.1, q.2.2.1))) = true := by decide +kernel
theorem dc_125 : m_125.all (fun q => decide (decode (yB 125) q.1 = .ok (q.2.1, q.2.2.1))) = true := dc_125_0
theorem dc_126_0 : m_126.all (fun q => decide (decode (yB 126) q.1 = .ok (q.2.1, q.2.2.1))) = true := by decide +kernel
theorem dc_126 : m_126.all (fun q => decide (decode (yB 126) q.1 = .ok (q.2.1, q.2.2.1))) = true := dc_126_0
theorem dc_127_0 : m_127.all (fun q => decide (decode (yB 127) q.1 = .ok (q.2.1, q.2.2.1))) = true := by decide +kernel
theorem dc_127 : m_127.all (fun q => decide (decode (yB 127) q.1 = .ok (q.2.1, q.2.2.1))) = true := dc_127_0
theorem dc_128_0 : m_128.all (fun q => decide (decode (yB 128) q.1 = .ok (q.2.1, q.2.2.1))) = true := by decide +kernel
theorem dc_128 : m_128.all (fun q => decide (decode (yB 128) q.1 = .ok (q.2.1, q.2.2.1))) = true := dc_128_0
theorem dc_129_0 : m_129_0.all (fun q => decide (decode (yB 129) q.1 = .ok (q.2.1, q.2.2.1))) = true := by decide +kernel
theorem dc_129_1 : m_129_1.all (fun q => decide (decode (yB 129) q.1 = .ok (q.2.1, q.2.2.1))) = true := by decide +kernel
theorem dc_129 : m_129.all (fun q => decide (decode (yB 129) q.1 = .ok (q.2.1, q.2.2.1))) = true := (by unfold m_129; rw [List.all_append, Bool.and_eq_true]; exact ⟨dc_129_0, dc_129_1⟩)
theorem dc_130_0 : m_130.all (fun q => decide (decode (yB 130) q.1 = .ok (q.2.1, q.2.2.1))) = true := by decide +kernel
theorem dc_130 : m_130.all (fun q => decide (decode (yB 130) q.1 = .ok (q.2.1, q.2.2.1))) = true := dc_130_0
theorem dc_131_0 : m_131.all (fun q => decide (decode (yB 131) q.1 = .ok (q.2.1, q.2.2.1))) = true := by decide +kernel
theorem dc_131 : m_131.all (fun q => decide (decode (yB 131) q.1 = .ok (q.2.1, q.2.2.1))) = true := dc_131_0
theorem dc_132_0 : m_132.all (fun q => decide (decode (yB 132) q.1 = .ok (q.2.1, q.2.2.1))) = true := by decide +kernel
theorem dc_132 : m_132.all (fun q => decide (decode (yB 132) q.1 = .ok (q.2.1, q.2.2.1))) = true := dc_132_0
theorem dc_133_0 : m_133.all (fun q => decide (decode (yB 133) q.1 = .ok (q.2.1, q.2.2.1))) = true := by decide +kernel
theorem dc_133 : m_133.all (fun q => decide (decode (yB 133) q.1 = .ok (q.2.1, q.2.2.1))) = true := dc_133_0
theorem dc_134_0 : m_134.all (fun q => decide (decode (yB 134) q.1 = .ok (q.2.1, q.2.2.1))) = true := by decide +kernel
theorem dc_134 : m_134.all (fun q => decide (decode (yB 134) q.1 = .ok (q.2.1, q.2.2.1))) = true := dc_134_0
theorem dc_135_0 : m_135_0.all (fun q => decide (decode (yB 135) q.1 = .ok (q.2.1, q.2.2.1))) = true := by decide +kernel
theorem dc_135_1 : m_135_1.all (fun q => decide (decode (yB 135) q.1 = .ok (q.2.1, q.2.2.1))) = true := by decide +kernel
theorem dc_135_2 : m_135_2.all (fun q => decide (decode (yB 135) q.1 = .ok (q.2.1, q.2.2.1))) = true := by decide +kernel
theorem dc_135_3 : m_135_3.all (fun q => decide (decode (yB 135) q.1 = .ok (q.2.1, q.2.2.1))) = true := by decide +kernel
theorem dc_135_4 : m_135_4.all (fun q => decide (decode (yB 135) q.1 = .ok (q.2.1, q.2.2.1))) = true := by decide +kernel
theorem dc_135 : m_135.all (fun q => decide (decode (yB 135) q.1 = .ok (q.2.1, q.2.2.1))) = true := (by unfold m_135; rw [List.all_append, Bool.and_eq_true]; exact ⟨dc_135_0, (by  rw [List.all_append, Bool.and_eq_true]; exact ⟨dc_135_1, (by  rw [List.all_append, Bool.and_eq_true]; exact ⟨dc_135_2, (by  rw [List.all_append, Bool.and_eq_true]; exact ⟨dc_135_3, dc_135_4⟩)⟩)⟩)⟩)
theorem dc_136_0 : m_136.all (fun q => decide (decode (yB 136) q.1 = .ok (q.2.1, q.2.2.1))) = true := by decide +kernel
theorem dc_136 : m_136.all (fun q => decide (decode (yB 136) q.1 = .ok (q.2.1, q.2.2.1))) = true := dc_136_0
theorem dc_137_0 : m_137_0.all (fun q => decide (decode (yB 137) q.1 = .ok (q.2.1, q.2.2.1))) = true := by decide +kernel
theorem dc_137_1 : m_137_1.all (fun q => decide (decode (yB 137) q.1 = .ok (q.2.1, q.2.2.1))) = true := by decide +kernel
theorem dc_137 : m_137.all (fun q => decide (decode (yB 137) q.1 = .ok (q.2.1, q.2.2.1))) = true := (by unfold m_137; rw [List.all_append, Bool.and_eq_true]; exact ⟨dc_137_0, dc_137_1⟩)
theorem dc_138_0 : m_138.all (fun q => decide (decode (yB 138) q.1 = .ok (q.2.1, q.2.2.1))) = true := by decide +kernel
theorem dc_138 : m_138.all (fun q => decide (decode (yB 138) q.1 = .ok (q.2.1, q.2.2.1))) = true := dc_138_0
theorem dc_139_0 : m_139.all (fun q => decide (decode (yB 139) q.1 = .ok (q.2.1, q.2.2.1))) = true := by decide +kernel
theorem dc_139 : m_139.all (fun q => decide (decode (yB 139) q.1 = .ok (q.2.1, q.2.2.1))) = true := dc_139_0
theorem dc_140_0 : m_140.all (fun q => decide (decode (yB 140) q.1 = .ok (q.2.1, q.2.2.1))) = true := by decide +kernel
theorem dc_140 : m_140.all (fun q => decide (decode (yB 140) q.1 = .ok (q.2.1, q.2.2.1))) = true := dc_140_0
theorem dc_141_0 : m_141_0.all (fun q => decide (decode (yB 141) q.1 = .ok (q.2.1, q.2.2.1))) = true := by decide +kernel
theorem dc_141_1 : m_141_1.all (fun q => decide (decode (yB 141) q.1 = .ok (q.2.1, q.2.2.1))) = true := by decide +kernel
theorem dc_141 : m_141.all (fun q => decide (decode (yB 141) q.1 = .ok (q.2.1, q.2.2.1))) = true := (by unfold m_141; rw [List.all_append, Bool.and_eq_true]; exact ⟨dc_141_0, dc_141_1⟩)
theorem dc_142_0 : m_142_0.all (fun q => decide (decode (yB 142) q.1 = .ok (q.2.1, q.2.2.1))) = true := by decide +kernel
theorem dc_142_1 : m_142_1.all (fun q => decide (decode (yB 142) q.1 = .ok (q.2.1, q.2.2.1))) = true := by decide +kernel
theorem dc_142 : m_142.all (fun q => decide (decode (yB 142) q.1 = .ok (q.2.1, q.2.2.1))) = true := (by unfold m_142; rw [List.all_append, Bool.and_eq_true]; exact ⟨dc_142_0, dc_142_1⟩)
theorem dc_143_0 : m_143_0.all (fun q => decide (decode (yB 143) q.1 = .ok (q.2.1, q.2.2.1))) = true := by decide +kernel
theorem dc_143_1 : m_143_1.all (fun q => decide (decode (yB 143) q.1 = .ok (q.2.1, q.2.2.1))) = true := by decide +kernel
theorem dc_143 : m_143.all (fun q => decide (decode (yB 143) q.1 = .ok (q.2.1, q.2.2.1))) = true := (by unfold m_143; rw [List.all_append, Bool.and_eq_true]; exact ⟨dc_143_0, dc_143_1⟩)
theorem dc_144_0 : m_144.all (fun q => decide (decode (yB 144) q.1 = .ok (q.2.1, q.2.2.1))) = true := by decide +kernel
theorem dc_144 : m_144.all (fun q => decide (decode (yB 144) q.1 = .ok (q.2.1, q.2.2.1))) = true := dc_144_0
theorem dc_145_0 : m_145.all (fun q => decide (decode (yB 145) q.1 = .ok (q.2.1, q.2.2.1))) = true := by decide +kernel
theorem dc_145 : m_145.all (fun q => decide (decode (yB 145) q.1 = .ok (q.2.1, q.2.2.1))) = true := dc_145_0
theorem dc_146_0 : m_146.all (fun q => decide (decode (yB 146) q.1 = .ok (q.2.1, q.2.2.1))) = true := by decide +kernel
theorem dc_146 : m_146.all (fun q => decide (decode (yB 146) q.1 = .ok (q.2.1, q.2.2.1))) = true := dc_146_0
theorem dc_147_0 : m_147.all (fun q => decide (decode (yB 147) q.1 = .ok (q.2.1, q.2.2.1))) = true := by decide +kernel
theorem dc_147 : m_147.all (fun q => decide (decode (yB 147) q.1 = .ok (q.2.1, q.2.2.1))) = true := dc_147_0
theorem dc_148_0 : m_148.all (fun q => decide (decode (yB 148) q.1 = .ok (q.2.1, q.2.2.1))) = true := by decide +kernel
theorem dc_148 : m_148.all (fun q => decide (decode (yB 148) q.1 = .ok (q.2.1, q.2.2.1))) = true := dc_148_0
theorem dc_149_0 : m_149.all (fun q => decide (decode (yB 149) q.1 = .ok (q.2.1, q.2.2.1))) = true := by decide +kernel
theorem dc_149 : m_149.all (fun q => decide (decode (yB 149) q.1 = .ok (q.2.1, q.2.2.1))) = true := dc_149_0
theorem dc_150_0 : m_150.all (fun q => decide (decode (yB 150) q.1 = .ok (q.2.1, q.2.2.1))) = true := by decide +kernel
theorem dc_150 : m_150.all (fun q => decide (decode (yB 150) q.1 = .ok (q.2.1, q.2.2.1))) = true := dc_150_0
theorem dc_151_0 : m_151.all (fun q => decide (decode (yB 151) q.1 = .ok (q.2.1, q.2.2.1))) = true := by decide +kernel
theorem dc_151 : m_151.all (fun q => decide (decode (yB 151) q.1 = .ok (q.2.1, q.2.2.1))) = true := dc_151_0
theorem dc_152_0 : m_152.all (fun q => decide (decode (yB 152) q.1 = .ok (q.2.1, q.2.2.1))) = true := by decide +kernel
theorem dc_152 : m_152.all (fun q => decide (decode (yB 152) q.1 = .ok (q.2.1, q.2.2.1))) = true := dc_152_0
theorem dc_153_0 : m_153.all (fun q => decide (decode (yB 153) q.1 = .ok (q.2.1, q.2.2.1))) = true := by decide +kernel
theorem dc_153 : m_153.all (fun q => decide (decode (yB 153) q.1 = .ok (q.2.1, q.2.2.1))) = true := dc_153_0
theorem dc_154_0 : m_154.all (fun q => decide (decode (yB 154) q.1 = .ok (q.2.1, q.2.2.1))) = true := by decide +kernel
theorem dc_154 : m_154.all (fun q => decide (decode (yB 154) q.1 = .ok (q.2.1, q.2.2.1))) = true := dc_154_0
theorem dc_155_0 : m_155.all (fun q => decide (decode (yB 155) q.1 = .ok (q.2.1, q.2.2.1))) = true := by decide +kernel
theorem dc_155 : m_155.all (fun q => decide (decode (yB 155) q.1 = .ok (q.2.1, q.2.2.1))) = true := dc_155_0
theorem dc_156_0 : m_156.all (fun q => decide (decode (yB 156) q.1 = .ok (q.2.1, q.2.2.1))) = true := by decide +kernel
theorem dc_156 : m_156.all (fun q => decide (decode (yB 156) q.1 = .ok (q.2.1, q.2.2.1))) = true := dc_156_0
theorem dc_157_0 : m_157.all (fun q => decide (decode (yB 157) q.1 = .ok (q.2.1, q.2.2.1))) = true := by decide +kernel
theorem dc_157 : m_157.all (fun q => decide (decode (yB 157) q.1 = .ok (q.2.1, q.2.2.1))) = true := dc_157_0
theorem dc_158_0 : m_158_0.all (fun q => decide (decode (yB 158) q.1 = .ok (q.2.1, q.2.2.1))) = true := by decide +kernel
theorem dc_158_1 : m_158_1.all (fun q => decide (decode (yB 158) q.1 = .ok (q.2.1, q.2.2.1))) = true := by decide +kernel
theorem dc_158_2 : m_158_2.all (fun q => decide (decode (yB 158) q.1 = .ok (q.2.1, q.2.2.1))) = true := by decide +kernel
theorem dc_158 : m_158.all (fun q => decide (decode (yB 158) q.1 = .ok (q.2.1, q.2.2.1))) = true := (by unfold m_158; rw [List.all_append, Bool.and_eq_true]; exact ⟨dc_158_0, (by  rw [List.all_append, Bool.and_eq_true]; exact ⟨dc_158_1, dc_158_2⟩)⟩)
theorem dc_159_0 : m_159_0.all (fun q => decide (decode (yB 159) q.1 = .ok (q.2.1, q.2.2.1))) = true := by decide +kernel
theorem dc_159_1 : m_159_1.all (fun q => decide (decode (yB 159) q.1 = .ok (q.2.1, q.2.2.1))) = true := by decide +kernel
theorem dc_159 : m_159.all (fun q => decide (decode (yB 159) q.1 = .ok (q.2.1, q.2.2.1))) = true := (by unfold m_159; rw [List.all_append, Bool.and_eq_true]; exact ⟨dc_159_0, dc_159_1⟩)
theorem dc_160_0 : m_160.all (fun q => decide (decode (yB 160) q.1 = .ok (q.2.1, q.2.2.1))) = true := by decide +kernel
theorem dc_160 : m_160.all (fun q => decide (decode (yB 160) q.1 = .ok (q.2.1, q.2.2.1))) = true := dc_160_0
theorem dc_161_0 : m_161_0.all (fun q => decide (decode (yB 161) q.1 = .ok (q.2.1, q.2.2.1))) = true := by decide +kernel
theorem dc_161_1 : m_161_1.all (fun q => decide (decode (yB 161) q.1 = .ok (q.2.1, q.2.2.1))) = true := by decide +kernel
theorem dc_161 : m_161.all (fun q => decide (decode (yB 161) q.1 = .ok (q.2.1, q.2.2.1))) = true := (by unfold m_161; rw [List.all_append, Bool.and_eq_true]; exact ⟨dc_161_0, dc_161_1⟩)
theorem dc_162_0 : m_162.all (fun q => decide (decode (yB 162) q.1 = .ok (q.2.1, q.2.2.1))) = true := by decide +kernel
theorem dc_162 : m_162.all (fun q => decide (decode (yB 162) q.1 = .ok (q.2.1, q.2.2.1))) = true := dc_162_0
theorem dc_163_0 : m_163.all (fun q => decide (decode (yB 163) q.1 = .ok (q.2.1, q.2.2.1))) = true := by decide +kernel
theorem dc_163 : m_163.all (fun q => decide (decode (yB 163) q.1 = .ok (q.2.1, q.2.2.1))) = true := dc_163_0
theorem dc_164_0 : m_164_0.all (fun q => decide (decode (yB 164) q.1 = .ok (q.2.1, q.2.2.1))) = true := by decide +kernel
theorem dc_164_1 : m_164_1.all (fun q => decide (decode (yB 164) q.1 = .ok (q.2.1, q.2.2.1))) = true := by decide +kernel
theorem dc_164 : m_164.all (fun q => decide (decode (yB 164) q.1 = .ok (q.2.1, q.2.2.1))) = true := (by unfold m_164; rw [List.all_append, Bool.and_eq_true]; exact ⟨dc_164_0, dc_164_1⟩)
theorem dc_165_0 : m_165.all (fun q => decide (decode (yB 165) q.1 = .ok (q.2.1, q.2.2.1))) = true := by decide +kernel
theorem dc_165 : m_165.all (fun q => decide (decode (yB 165) q.1 = .ok (q.2.1, q.2.2.1))) = true := dc_165_0
theorem dc_166_0 : m_166.all (fun q => decide (decode (yB 166) q.1 = .ok (q.2.1, q.2.2.1))) = true := by decide +kernel
theorem dc_166 : m_166.all (fun q => decide (decode (yB 166) q.1 = .ok (q.2.1, q.2.2.1))) = true := dc_166_0
theorem dc_167_0 : m_167.all (fun q => decide (decode (yB 167) q.1 = .ok (q.2.1, q.2.2.1))) = true := by decide +kernel
theorem dc_167 : m_167.all (fun q => decide (decode (yB 167) q.1 = .ok (q.2.1, q.2.2.1))) = true := dc_167_0
theorem dc_168_0 : m_168.all (fun q => decide (decode (yB 168) q.1 = .ok (q.2.1, q.2.2.1))) = true := by decide +kernel
theorem dc_168 : m_168.all (fun q => decide (decode (yB 168) q.1 = .ok (q.2.1, q.2.2.1))) = true := dc_168_0
theorem dc_169_0 : m_169.all (fun q => decide (decode (yB 169) q.1 = .ok (q.2.1, q.2.2.1))) = true := by decide +kernel
theorem dc_169 : m_169.all (fun q => decide (decode (yB 169) q.1 = .ok (q.2.1, q.2.2.1))) = true := dc_169_0
theorem dc_170_0 : m_170.all (fun q => decide (decode (yB 170) q.1 = .ok (q.2.1, q.2.2.1))) = true := by decide +kernel
theorem dc_170 : m_170.all (fun q => decide (decode (yB 170) q.1 = .ok (q.2.1, q.2.2.1))) = true := dc_170_0
theorem dc_171_0 : m_171.all (fun q => decide (decode (yB 171) q.1 = .ok (q.2.1, q.2.2.1))) = true := by decide +kernel
theorem dc_171 : m_171.all (fun q => decide (decode (yB 171) q.1 = .ok (q.2.1, q.2.2.1))) = true := dc_171_0
theorem dc_172_0 : m_172_0.all (fun q => decide (decode (yB 172) q.1 = .ok (q.2.1, q.2.2.1))) = true := by decide +kernel
theorem dc_172_1 : m_172_1.all (fun q => decide (decode (yB 172) q.1 = .ok (q.2.1, q.2.2.1))) = true := by decide +kernel
theorem dc_172 : m_172.all (fun q => decide (decode (yB 172) q.1 = .ok (q.2.1, q.2.2.1))) = true := (by unfold m_172; rw [List.all_append, Bool.and_eq_true]; exact ⟨dc_172_0, dc_172_1⟩)
theorem dc_173_0 : m_173.all (fun q => decide (decode (yB 173) q.1 = .ok (q.2.1, q.2.2.1))) = true := by decide +kernel
theorem dc_173 : m_173.all (fun q => decide (decode (yB 173) q.1 = .ok (q.2.1, q.2.2.1))) = true := dc_173_0
theorem dc_174_0 : m_174_0.all (fun q => decide (decode (yB 174) q.1 = .ok (q.2.1, q.2.2.1))) = true := by decide +kernel
theorem dc_174_1 : m_174_1.all (fun q => decide (decode (yB 174) q.1 = .ok (q.2.1, q.2.2.1))) = true := by decide +kernel
theorem dc_174_2 : m_174_2.all (fun q => decide (decode (yB 174) q.1 = .ok (q.2.1, q.2.2.1))) = true := by decide +kernel
theorem dc_174 : m_174.all (fun q => decide (decode (yB 174) q.1 = .ok (q.2.1, q.2.2.1))) = true := (by unfold m_174; rw [List.all_append, Bool.and_eq_true]; exact ⟨dc_174_0, (by  rw [List.all_append, Bool.and_eq_true]; exact ⟨dc_174_1, dc_174_2⟩)⟩)
theorem dc_175_0 : m_175.all (fun q => decide (decode (yB 175) q.1 = .ok (q.2.1, q.2.2.1))) = true := by decide +kernel
theorem dc_175 : m_175.all (fun q => decide (decode (yB 175) q.1 = .ok (q.2.1, q.2.2.1))) = true := dc_175_0
theorem dc_176_0 : m_176.all (fun q => decide (decode (yB 176) q.1 = .ok (q.2.1, q.2.2.1))) = true := by decide +kernel
theorem dc_176 : m_176.all (fun q => decide (decode (yB 176) q.1 = .ok (q.2.1, q.2.2.1))) = true := dc_176_0
theorem dc_177_0 : m_177_0.all (fun q => decide (decode (yB 177) q.1 = .ok (q.2.1, q.2.2.1))) = true := by decide +kernel
theorem dc_177_1 : m_177_1.all (fun q => decide (decode (yB 177) q.1 = .ok (q.2.1, q.2.2.1))) = true := by decide +kernel
theorem dc_177 : m_177.all (fun q => decide (decode (yB 177) q.1 = .ok (q.2.1, q.2.2.1))) = true := (by unfold m_177; rw [List.all_append, Bool.and_eq_true]; exact ⟨dc_177_0, dc_177_1⟩)
theorem dc_178_0 : m_178_0.all (fun q => decide (decode (yB 178) q.1 = .ok (q.2.1, q.2.2.1))) = true := by decide +kernel
theorem dc_178_1 : m_178_1.all (fun q => decide (decode (yB 178) q.1 = .ok (q.2.1, q.2.2.1))) = true := by decide +kernel
theorem dc_178_2 : m_178_2.all (fun q => decide (decode (yB 178) q.1 = .ok (q.2.1, q.2.2.1))) = true := by decide +kernel
theorem dc_178 : m_178.all (fun q => decide (decode (yB 178) q.1 = .ok (q.2.1, q.2.2.1))) = true := (by unfold m_178; rw [List.all_append, Bool.and_eq_true]; exact ⟨dc_178_0, (by  rw [List.all_append, Bool.and_eq_true]; exact ⟨dc_178_1, dc_178_2⟩)⟩)
theorem dc_179_0 : m_179.all (fun q => decide (decode (yB 179) q.1 = .ok (q.2.1, q.2.2.1))) = true := by decide +kernel
theorem dc_179 : m_179.all (fun q => decide (decode (yB 179) q.1 = .ok (q.2.1, q.2.2.1))) = true := dc_179_0
theorem dc_180_0 : m_180.all (fun q => decide (decode (yB 180) q.1 = .ok (q.2.1, q.2.2.1))) = true := by decide +kernel
theorem dc_180 : m_180.all (fun q => decide (decode (yB 180) q.1 = .ok (q.2.1, q.2.2.1))) = true := dc_180_0
theorem dc_181_0 : m_181.all (fun q => decide (decode (yB 181) q.1 = .ok (q.2.1, q.2.2.1))) = true := by decide +kernel
theorem dc_181 : m_181.all (fun q => decide (decode (yB 181) q.1 = .ok (q.2.1, q.2.2.1))) = true := dc_181_0
theorem dc_182_0 : m_182.all (fun q => decide (decode (yB 182) q.1 = .ok (q.2.1, q.2.2.1))) = true := by decide +kernel
theorem dc_182 : m_182.all (fun q => decide (decode (yB 182) q.1 = .ok (q.2.1, q.2.2.1))) = true := dc_182_0
theorem dc_183_0 : m_183.all (fun q => decide (decode (yB 183) q.1 = .ok (q.2.1, q.2.2.1))) = true := by decide +kernel
theorem dc_183 : m_183.all (fun q => decide (decode (yB 183) q.1 = .ok (q.2.1, q.2.2.1))) = true := dc_183_0
theorem dc_184_0 : m_184.all (fun q => decide (decode (yB 184) q.1 = .ok (q.2.1, q.2.2.1))) = true := by decide +kernel
theorem dc_184 : m_184.all (fun q => decide (decode (yB 184) q.1 = .ok (q.2.1, q.2.2.1))) = true := dc_184_0
theorem dc_185_0 : m_185.all (fun q => decide (decode (yB 185) q.1 = .ok (q.2.1, q.2.2.1))) = true := by decide +kernel
theorem dc_185 : m_185.all (fun q => decide (decode (yB 185) q.1 = .ok (q.2.1, q.2.2.1))) = true := dc_185_0
theorem dc_186_0 : m_186.all (fun q => decide (decode (yB 186) q.1 = .ok (q.2.1, q.2.2.1))) = true := by decide +kernel
theorem dc_186 : m_186.all (fun q => decide (decode (yB 186) q.1 = .ok (q.2.1, q.2.2.1))) = true := dc_186_0
theorem dc_187_0 : m_187.all (fun q => decide (decode (yB 187) q.1 = .ok (q.2.1, q.2.2.1))) = true := by decide +kernel
theorem dc_187 : m_187.all (fun q => decide (decode (yB 187) q.1 = .ok (q.2.1, q.2.2.1))) = true := dc_187_0
theorem dc_188_0 : m_188.all (fun q => decide (decode (yB 188) q.1 = .ok (q.2.1, q.2.2.1))) = true := by decide +kernel
theorem dc_188 : m_188.all (fun q => decide (decode (yB 188) q.1 = .ok (q.2.1, q.2.2.1))) = true := dc_188_0
theorem dc_189_0 : m_189.all (fun q => decide (decode (yB 189) q.1 = .ok (q.2.1, q.2.2.1))) = true := by decide +kernel
theorem dc_189 : m_189.all (fun q => decide (decode (yB 189) q.1 = .ok (q.2.1, q.2.2.1))) = true := dc_189_0
theorem dc_190_0 : m_190_0.all (fun q => decide (decode (yB 190) q.1 = .ok (q.2.1, q.2.2.1))) = true := by decide +kernel
theorem dc_190_1 : m_190_1.all (fun q => decide (decode (yB 190) q.1 = .ok (q.2.1, q.2.2.1))) = true := by decide +kernel
theorem dc_190_2 : m_190_2.all (fun q => decide (decode (yB 190) q.1 = .ok (q.2.1, q.2.2.1))) = true := by decide +kernel
theorem dc_190_3 : m_190_3.all (fun q => decide (decode (yB 190) q.1 = .ok (q.2.1, q.2.2.1))) = true := by decide +kernel
theorem dc_190 : m_190.all (fun q => decide (decode (yB 190) q.1 = .ok (q.2.1, q.2.2.1))) = true := (by unfold m_190; rw [List.all_append, Bool.and_eq_true]; exact ⟨dc_190_0, (by  rw [List.all_append, Bool.and_eq_true]; exact ⟨dc_190_1, (by  rw [List.all_append, Bool.and_eq_true]; exact ⟨dc_190_2, dc_190_3⟩)⟩)⟩)
theorem dc_191_0 : m_191_0.all (fun q => decide (decode (yB 191) q.1 = .ok (q.2.1, q.2.2.1))) = true := by decide +kernel
theorem dc_191_1 : m_191_1.all (fun q => decide (decode (yB 191) q.1 = .ok (q.2.1, q.2.2.1))) = true := by decide +kernel
theorem dc_191 : m_191.all (fun q => decide (decode (yB 191) q.1 = .ok (q.2.1, q.2.2.1))) = true := (by unfold m_191; rw [List.all_append, Bool.and_eq_true]; exact ⟨dc_191_0, dc_191_1⟩)
theorem dc_192_0 : m_192.all (fun q => decide (decode (yB 192) q.1 = .ok (q.2.1, q.2.2.1))) = true := by decide +kernel
theorem dc_192 : m_192.all (fun q => decide (decode (yB 192) q.1 = .ok (q.2.1, q.2.2.1))) = true := dc_192_0
theorem dc_193_0 : m_193_0.all (fun q => decide (decode (yB 193) q.1 = .ok (q.2.1, q.2.2.1))) = true := by decide +kernel
theorem dc_193_1 : m_193_1.all (fun q => decide (decode (yB 193) q.1 = .ok (q.2.1, q.2.2.1))) = true := by decide +kernel
theorem dc_193 : m_193.all (fun q => decide (decode (yB 193) q.1 = .ok (q.2.1, q.2.2.1))) = true := (by unfold m_193; rw [List.all_append, Bool.and_eq_true]; exact ⟨dc_193_0, dc_193_1⟩)
theorem dc_194_0 : m_194.all (fun q => decide (decode (yB 194) q.1 = .ok (q.2.1, q.2.2.1))) = true := by decide +kernel
theorem dc_194 : m_194.all (fun q => decide (decode (yB 194) q.1 = .ok (q.2.1, q.2.2.1))) = true := dc_194_0
theorem dc_195_0 : m_195.all (fun q => decide (decode (yB 195) q.1 = .ok (q.2.1, q.2.2.1))) = true := by decide +kernel
theorem dc_195 : m_195.all (fun q => decide (decode (yB 195) q.1 = .ok (q.2.1, q.2.2.1))) = true := dc_195_0
theorem dc_196_0 : m_196.all (fun q => decide (decode (yB 196) q.1 = .ok (q.2.1, q.2.2.1))) = true := by decide +kernel
theorem dc_196 : m_196.all (fun q => decide (decode (yB 196) q.1 = .ok (q.2.1, q.2.2.1))) = true := dc_196_0
theorem dc_197_0 : m_197.all (fun q => decide (decode (yB 197) q.1 = .ok (q.2.1, q.2.2.1))) = true := by decide +kernel
theorem dc_197 : m_197.all (fun q => decide (decode (yB 197) q.1 = .ok (q.2.1, q.2.2.1))) = true := dc_197_0
theorem dc_198_0 : m_198.all (fun q => decide (decode (yB 198) q.1 = .ok (q.2.1, q.2.2.1))) = true := by decide +kernel
theorem dc_198 : m_198.all (fun q => decide (decode (yB 198) q.1 = .ok (q.2.1, q.2.2.1))) = true := dc_198_0
theorem dc_199_0 : m_199.all (fun q => decide (decode (yB 199) q.1 = .ok (q.2.1, q.2.2.1))) = true := by decide +kernel
theorem dc_199 : m_199.all (fun q => decide (decode (yB 199) q.1 = .ok (q.2.1, q.2.2.1))) = true := dc_199_0
theorem dc_200_0 : m_200_0.all (fun q => decide (decode (yB 200) q.1 = .ok (q.2.1, q.2.2.1))) = true := by decide +kernel
theorem dc_200_1 : m_200_1.all (fun q => decide (decode (yB 200) q.1 = .ok (q.2.1, q.2.2.1))) = true := by decide +kernel
theorem dc_200_2 : m_200_2.all (fun q => decide (decode (yB 200) q.1 = .ok (q.2.1, q.2.2.1))) = true := by decide +kernel
theorem dc_200 : m_200.all (fun q => decide (decode (yB 200) q.1 = .ok (q.2.1, q.2.2.1))) = true := (by unfold m_200; rw [List.all_append, Bool.and_eq_true]; exact ⟨dc_200_0, (by  rw [List.all_append, Bool.and_eq_true]; exact ⟨dc_200_1, dc_200_2⟩)⟩)
theorem dc_201_0 : m_201.all (fun q => decide (decode (yB 201) q.1 = .ok (q.2.1, q.2.2.1))) = true := by decide +kernel
theorem dc_201 : m_201.all (fun q => decide (decode (yB 201) q.1 = .ok (q.2.1, q.2.2.1))) = true := dc_201_0
theorem dc_202_0 : m_202.all (fun q => decide (decode (yB 202) q.1 = .ok (q.2.1, q.2.2.1))) = true := by decide +kernel
theorem dc_202 : m_202.all (fun q => decide (decode (yB 202) q.1 = .ok (q.2.1, q.2.2.1))) = true := dc_202_0
theorem dc_203_0 : m_203.all (fun q => decide (decode (yB 203) q.1 = .ok (q.2.1, q.2.2.1))) = true := by decide +kernel
theorem dc_203 : m_203.all (fun q => decide (decode (yB 203) q.1 = .ok (q.2.1, q.2.2.1))) = true := dc_203_0
theorem dc_204_0 : m_204_0.all (fun q => decide (decode (yB 204) q.1 = .ok (q.2.1, q.2.2.1))) = true := by decide +kernel
theorem dc_204_1 : m_204_1.all (fun q => decide (decode (yB 204) q.1 = .ok (q.2.1, q.2.2.1))) = true := by decide +kernel
theorem dc_204 : m_204.all (fun q => decide (decode (yB 204) q.1 = .ok (q.2.1, q.2.2.1))) = true := (by unfold m_204; rw [List.all_append, Bool.and_eq_true]; exact ⟨dc_204_0, dc_204_1⟩)
theorem dc_205_0 : m_205_0.all (fun q => decide (decode (yB 205) q.1 = .ok (q.2.1, q.2.2.1))) = true := by decide +kernel
theorem dc_205_1 : m_205_1.all (fun q => decide (decode (yB 205) q.1 = .ok (q.2.1, q.2.2.1))) = true := by decide +kernel
theorem dc_205 : m_205.all (fun q => decide (decode (yB 205) q.1 = .ok (q.2.1, q.2.2.1))) = true := (by unfold m_205; rw [List.all_append, Bool.and_eq_true]; exact ⟨dc_205_0, dc_205_1⟩)
theorem dc_206_0 : m_206.all (fun q => decide (decode (yB 206) q.1 = .ok (q.2.1, q.2.2.1))) = true := by decide +kernel
theorem dc_206 : m_206.all (fun q => decide (decode (yB 206) q.1 = .ok (q.2.1, q.2.2.1))) = true := dc_206_0
theorem dc_207_0 : m_207_0.all (fun q => decide (decode (yB 207) q.1 = .ok (q.2.1, q.2.2.1))) = true := by decide +kernel
theorem dc_207_1 : m_207_1.all (fun q => decide (decode (yB 207) q.1 = .ok (q.2.1, q.2.2.1))) = true := by decide +kernel
theorem dc_207 : m_207.all (fun q => decide (decode (yB 207) q.1 = .ok (q.2.1, q.2.2.1))) = true := (by unfold m_207; rw [List.all_append, Bool.and_eq_true]; exact ⟨dc_207_0, dc_207_1⟩)
theorem dc_208_0 : m_208.all (fun q => decide (decode (yB 208) q.1 = .ok (q.2.1, q.2.2.1))) = true := by decide +kernel
theorem dc_208 : m_208.all (fun q => decide (decode (yB 208) q.1 = .ok (q.2.1, q.2.2.1))) = true := dc_208_0
theorem dc_209_0 : m_209.all (fun q => decide (decode (yB 209) q.1 = .ok (q.2.1, q.2.2.1))) = true := by decide +kernel
theorem dc_209 : m_209.all (fun q => decide (decode (yB 209) q.1 = .ok (q.2.1, q.2.2.1))) = true := dc_209_0
theorem dc_210_0 : m_210.all (fun q => decide (decode (yB 210) q.1 = .ok (q.2.1, q.2.2.1))) = true := by decide +kernel
theorem dc_210 : m_210.all (fun q => decide (decode (yB 210) q.1 = .ok (q.2.1, q.2.2.1))) = true := dc_210_0
theorem dc_211_0 : m_211_0.all (fun q => decide (decode (yB 211) q.1 = .ok (q.2.1, q.2.2.1))) = true := by decide +kernel
theorem dc_211_1 : m_211_1.all (fun q => decide (decode (yB 211) q.1 = .ok (q.2.1, q.2.2.1))) = true := by decide +kernel
theorem dc_211_2 : m_211_2.all (fun q => decide (decode (yB 211) q.1 = .ok (q.2.1, q.2.2.1))) = true := by decide +kernel
theorem dc_211 : m_211.all (fun q => decide (decode (yB 211) q.1 = .ok (q.2.1, q.2.2.1))) = true := (by unfold m_211; rw [List.all_append, Bool.and_eq_true]; exact ⟨dc_211_0, (by  rw [List.all_append, Bool.and_eq_true]; exact ⟨dc_211_1, dc_211_2⟩)⟩)
theorem dc_212_0 : m_212_0.all (fun q => decide (decode (yB 212) q.1 = .ok (q.2.1, q.2.2.1))) = true := by decide +kernel
theorem dc_212_1 : m_212_1.all (fun q => decide (decode (yB 212) q.1 = .ok (q.2.1, q.2.2.1))) = true := by decide +kernel
theorem dc_212 : m_212.all (fun q => decide (decode (yB 212) q.1 = .ok (q.2.1, q.2.2.1))) = true := (by unfold m_212; rw [List.all_append, Bool.and_eq_true]; exact ⟨dc_212_0, dc_212_1⟩)
theorem dc_213_0 : m_213.all (fun q => decide (decode (yB 213) q.1 = .ok (q.2.1, q.2.2.1))) = true := by decide +kernel
theorem dc_213 : m_213.all (fun q => decide (decode (yB 213) q.1 = .ok (q.2.1, q.2.2.1))) = true := dc_213_0
theorem dc_214_0 : m_214.all (fun q => decide (decode (yB 214) q.1 = .ok (q.2.1, q.2.2.1))) = true := by decide +kernel
theorem dc_214 : m_214.all (fun q => decide (decode (yB 214) q.1 = .ok (q.2.1, q.2.2.1))) = true := dc_214_0
theorem dc_215_0 : m_215_0.all (fun q => decide (decode (yB 215) q.1 = .ok (q.2.1, q.2.2.1))) = true := by decide +kernel
theorem dc_215_1 : m_215_1.all (fun q => decide (decode (yB 215) q.1 = .ok (q.2.1, q.2.2.1))) = true := by decide +kernel
theorem dc_215 : m_215.all (fun q => decide (decode (yB 215) q.1 = .ok (q.2.1, q.2.2.1))) = true := (by unfold m_215; rw [List.all_append, Bool.and_eq_true]; exact ⟨dc_215_0, dc_215_1⟩)
theorem dc_216_0 : m_216.all (fun q => decide (decode (yB 216) q.1 = .ok (q.2.1, q.2.2.1))) = true := by decide +kernel
theorem dc_216 : m_216.all (fun q => decide (decode (yB 216) q.1 = .ok (q.2.1, q.2.2.1))) = true := dc_216_0
theorem dc_217_0 : m_217.all (fun q => decide (decode (yB 217) q.1 = .ok (q.2.1, q.2.2.1))) = true := by decide +kernel
theorem dc_217 : m_217.all (fun q => decide (decode (yB 217) q.1 = .ok (q.2.1, q.2.2.1))) = true := dc_217_0
theorem dc_218_0 : m_218.all (fun q => decide (decode (yB 218) q.1 = .ok (q.2.1, q.2.2.1))) = true := by decide +kernel
theorem dc_218 : m_218.all (fun q => decide (decode (yB 218) q.1 = .ok (q.2.1, q.2.2.1))) = true := dc_218_0
theorem dc_219_0 : m_219.all (fun q => decide (decode (yB 219) q.1 = .ok (q.2.1, q.2.2.1))) = true := by decide +kernel
theorem dc_219 : m_219.all (fun q => decide (decode (yB 219) q.1 = .ok (q.2.1, q.2.2.1))) = true := dc_219_0
theorem dc_220_0 : m_220_0.all (fun q => decide (decode (yB 220) q.1 = .ok (q.2.1, q.2.2.1))) = true := by decide +kernel
theorem dc_220_1 : m_220_1.all (fun q => decide (decode (yB 220) q.1 = .ok (q.2.1, q.2.2.1))) = true := by decide +kernel
theorem dc_220_2 : m_220_2.all (fun q => decide (decode (yB 220) q.1 = .ok (q.2.1, q.2.2.1))) = true := by decide +kernel
theorem dc_220 : m_220.all (fun q => decide (decode (yB 220) q.1 = .ok (q.2.1, q.2.2.1))) = true := (by unfold m_220; rw [List.all_append, Bool.and_eq_true]; exact ⟨dc_220_0, (by  rw [List.all_append, Bool.and_eq_true]; exact ⟨dc_220_1, dc_220_2⟩)⟩)
theorem dc_221_0 : m_221.all (fun q => decide (decode (yB 221) q.1 = .ok (q.2.1, q.2.2.1))) = true := by decide +kernel
theorem dc_221 : m_221.all (fun q => decide (decode (yB 221) q.1 = .ok (q.2.1, q.2.2.1))) = true := dc_221_0
theorem dc_222_0 : m_222_0.all (fun q => decide (decode (yB 222) q.1 = .ok (q.2.1, q.2.2.1))) = true := by decide +kernel
theorem dc_222_1 : m_222_1.all (fun q => decide (decode (yB 222) q.1 = .ok (q.2.1, q.2.2.1))) = true := by decide +kernel
theorem dc_222 : m_222.all (fun q => decide (decode (yB 222) q.1 = .ok (q.2.1, q.2.2.1))) = true := (by unfold m_222; rw [List.all_append, Bool.and_eq_true]; exact ⟨dc_222_0, dc_222_1⟩)
theorem dc_223_0 : m_223.all (fun q => decide (decode (yB 223) q.1 = .ok (q.2.1, q.2.2.1))) = true := by decide +kernel
theorem dc_223 : m_223.all (fun q => decide (decode (yB 223) q.1 = .ok (q.2.1, q.2.2.1))) = true := dc_223_0
theorem dc_224_0 : m_224.all (fun q => decide (decode (yB 224) q.1 = .ok (q.2.1, q.2.2.1))) = true := by decide +kernel
theorem dc_224 : m_224.all (fun q => decide (decode (yB 224) q.1 = .ok (q.2.1, q.2.2.1))) = true := dc_224_0
theorem dc_225_0 : m_225.all (fun q => decide (decode (yB 225) q.1 = .ok (q.2.1, q.2.2.1))) = true := by decide +kernel
theorem dc_225 : m_225.all (fun q => decide (decode (yB 225) q.1 = .ok (q.2.1, q.2.2.1))) = true := dc_225_0
theorem dc_226_0 : m_226.all (fun q => decide (decode (yB 226) q.1 = .ok (q.2.1, q.2.2.1))) = true := by decide +kernel
theorem dc_226 : m_226.all (fun q => decide (decode (yB 226) q.1 = .ok (q.2.1, q.2.2.1))) = true := dc_226_0
theorem dc_227_0 : m_227.all (fun q => decide (decode (yB 227) q.1 = .ok (q.2.1, q.2.2.1))) = true := by decide +kernel
theorem dc_227 : m_227.all (fun q => decide (decode (yB 227) q.1 = .ok (q.2.1, q.2.2.1))) = true := dc_227_0
theorem dc_228_0 : m_228.all (fun q => decide (decode (yB 228) q.1 = .ok (q.2.1, q.2.2.1))) = true := by decide +kernel
theorem dc_228 : m_228.all (fun q => decide (decode (yB 228) q.1 = .ok (q.2.1, q.2.2.1))) = true := dc_228_0
theorem dc_229_0 : m_229.all (fun q => decide (decode (yB 229) q.1 = .ok (q.2.1, q.2.2.1))) = true := by decide +kernel
theorem dc_229 : m_229.all (fun q => decide (decode (yB 229) q.1 = .ok (q.2.1, q.2.2.1))) = true := dc_229_0
theorem dc_230_0 : m_230.all (fun q => decide (decode (yB 230) q.1 = .ok (q.2.1, q.2.2.1))) = true := by decide +kernel
theorem dc_230 : m_230.all (fun q => decide (decode (yB 230) q.1 = .ok (q.2.1, q.2.2.1))) = true := dc_230_0
theorem dc_231_0 : m_231.all (fun q => decide (decode (yB 231) q.1 = .ok (q.2.1, q.2.2.1))) = true := by decide +kernel
theorem dc_231 : m_231.all (fun q => decide (decode (yB 231) q.1 = .ok (q.2.1, q.2.2.1))) = true := dc_231_0
theorem dc_232_0 : m_232.all (fun q => decide (decode (yB 232) q.1 = .ok (q.2.1, q.2.2.1))) = true := by decide +kernel
theorem dc_232 : m_232.all (fun q => decide (decode (yB 232) q.1 = .ok (q.2.1, q.2.2.1))) = true := dc_232_0
theorem dc_233_0 : m_233_0.all (fun q => decide (decode (yB 233) q.1 = .ok (q.2.1, q.2.2.1))) = true := by decide +kernel
theorem dc_233_1 : m_233_1.all (fun q => decide (decode (yB 233) q.1 = .ok (q.2.1, q.2.2.1))) = true := by decide +kernel
theorem dc_233 : m_233.all (fun q => decide (decode (yB 233) q.1 = .ok (q.2.1, q.2.2.1))) = true := (by unfold m_233; rw [List.all_append, Bool.and_eq_true]; exact ⟨dc_233_0, dc_233_1⟩)
theorem dc_234_0 : m_234.all (fun q => decide (decode (yB 234) q.1 = .ok (q.2.1, q.2.2.1))) = true := by decide +kernel
theorem dc_234 : m_234.all (fun q => decide (decode (yB 234) q.1 = .ok (q.2.1, q.2.2.1))) = true := dc_234_0
theorem dc_235_0 : m_235_0.all (fun q => decide (decode (yB 235) q.1 = .ok (q.2.1, q.2.2.1))) = true := by decide +kernel
theorem dc_235_1 : m_235_1.all (fun q => decide (decode (yB 235) q.1 = .ok (q.2.1, q.2.2.1))) = true := by decide +kernel
theorem dc_235 : m_235.all (fun q => decide (decode (yB 235) q.1 = .ok (q.2.1, q.2.2.1))) = true := (by unfold m_235; rw [List.all_append, Bool.and_eq_true]; exact ⟨dc_235_0, dc_235_1⟩)
theorem dc_236_0 : m_236.all (fun q => decide (decode (yB 236) q.1 = .ok (q.2.1, q.2.2.1))) = true := by decide +kernel
theorem dc_236 : m_236.all (fun q => decide (decode (yB 236) q.1 = .ok (q.2.1, q.2.2.1))) = true := dc_236_0
theorem dc_237_0 : m_237.all (fun q => decide (decode (yB 237) q.1 = .ok (q.2.1, q.2.2.1))) = true := by decide +kernel
theorem dc_237 : m_237.all (fun q => decide (decode (yB 237) q.1 = .ok (q.2.1, q.2.2.1))) = true := dc_237_0
theorem dc_238_0 : m_238.all (fun q => decide (decode (yB 238) q.1 = .ok (q.2.1, q.2.2.1))) = true := by decide +kernel
theorem dc_238 : m_238.all (fun q => decide (decode (yB 238) q.1 = .ok (q.2.1, q.2.2.1))) = true := dc_238_0
theorem dc_239_0 : m_239.all (fun q => decide (decode (yB 239) q.1 = .ok (q.2.1, q.2.2.1))) = true := by decide +kernel
theorem dc_239 : m_239.all (fun q => decide (decode (yB 239) q.1 = .ok (q.2.1, q.2.2.1))) = true := dc_239_0
theorem dc_240_0 : m_240_0.all (fun q => decide (decode (yB 240) q.1 = .ok (q.2.1, q.2.2.1))) = true := by decide +kernel
theorem dc_240_1 : m_240_1.all (fun q => decide (decode (yB 240) q.1 = .ok (q.2.1, q.2.2.1))) = true := by decide +kernel
theorem dc_240 : m_240.all (fun q => decide (decode (yB 240) q.1 = .ok (q.2.1, q.2.2.1))) = true := (by unfold m_240; rw [List.all_append, Bool.and_eq_true]; exact ⟨dc_240_0, dc_240_1⟩)
theorem dc_241_0 : m_241.all (fun q => decide (decode (yB 241) q.1 = .ok (q.2.1, q.2.2.1))) = true := by decide +kernel
theorem dc_241 : m_241.all (fun q => decide (decode (yB 241) q.1 = .ok (q.2.1, q.2.2.1))) = true := dc_241_0
theorem dc_242_0 : m_242.all (fun q => decide (decode (yB 242) q.1 = .ok (q.2.1, q.2.2.1))) = true := by decide +kernel
theorem dc_242 : m_242.all (fun q => decide (decode (yB 242) q.1 = .ok (q.2.1, q.2.2.1))) = true := dc_242_0
theorem dc_243_0 : m_243.all (fun q => decide (decode (yB 243) q.1 = .ok (q.2.1, q.2.2.1))) = true := by decide +kernel
theorem dc_243 : m_243.all (fun q => decide (decode (yB 243) q.1 = .ok (q.2.1, q.2.2.1))) = true := dc_243_0
theorem dc_244_0 : m_244.all (fun q => decide (decode (yB 244) q.1 = .ok (q.2.1, q.2.2.1))) = true := by decide +kernel
theorem dc_244 : m_244.all (fun q => decide (decode (yB 244) q.1 = .ok (q.2.1, q.2.2.1))) = true := dc_244_0
theorem dc_245_0 : m_245.all (fun q => decide (decode (yB 245) q.1 = .ok (q.2.1, q.2.2.1))) = true := by decide +kernel
theorem dc_245 : m_245.all (fun q => decide (decode (yB 245) q.1 = .ok (q.2.1, q.2.2.1))) = true := dc_245_0
theorem dc_246_0 : m_246.all (fun q => decide (decode (yB 246) q.1 = .ok (q.2.1, q.2.2.1))) = true := by decide +kernel
theorem dc_246 : m_246.all (fun q => decide (decode (yB 246) q.1 = .ok (q.2.1, q.2.2.1))) = true := dc_246_0
theorem dc_247_0 : m_247.all (fun q => decide (decode (yB 247) q.1 = .ok (q.2.1, q.2.2.1))) = true := by decide +kernel
theorem dc_247 : m_247.all (fun q => decide (decode (yB 247) q.1 = .ok (q.2.1, q.2.2.1))) = true := dc_247_0
theorem dc_248_0 : m_248.all (fun q => decide (decode (yB 248) q.1 = .ok (q.2.1, q.2.2.1))) = true := by decide +kernel
theorem dc_248 : m_248.all (fun q => decide (decode (yB 248) q.1 = .ok (q.2.1, q.2.2.1))) = true := dc_248_0
theorem dc_249_0 : m_249.all (fun q => decide (decode (yB 249) q.1 = .ok (q.2.1, q.2.2.1))) = true := by decide +kernel
theorem dc_249 : m_249.all (fun q => decide (decode (yB 249) q.1 = .ok (q.2.1, q.2.2.1))) = true := dc_249_0
theorem dc_250_0 : m_250.all (fun q => decide (decode (yB 250) q.1 = .ok (q.2.1, q.2.2.1))) = true := by decide +kernel
theorem dc_250 : m_250.all (fun q => decide (decode (yB 250) q.1 = .ok (q.2.1, q.2.2.1))) = true := dc_250_0
theorem dc_251_0 : m_251.all (fun q => decide (decode (yB 251) q.1 = .ok (q.2.1, q.2.2.1))) = true := by decide +kernel
theorem dc_251 : m_251.all (fun q => decide (decode (yB 251) q.1 = .ok (q.2.1, q.2.2.1))) = true := dc_251_0
theorem dc_252_0 : m_252.all (fun q => decide (decode (yB 252) q.1 = .ok (q.2.1, q.2.2.1))) = true := by decide +kernel
theorem dc_252 : m_252.all (fun q => decide (decode (yB 252) q.1 = .ok (q.2.1, q.2.2.1))) = true := dc_252_0
theorem dc_253_0 : m_253.all (fun q => decide (decode (yB 253) q.1 = .ok (q.2.1, q.2.2.1))) = true := by decide +kernel
theorem dc_253 : m_253.all (fun q => decide (decode (yB 253) q.1 = .ok (q.2.1, q.2.2.1))) = true := dc_253_0
