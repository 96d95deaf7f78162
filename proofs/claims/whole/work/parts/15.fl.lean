theorem fl_0 : zFl "ThinAir$Laws" 11 [1] 0 4 true true := ⟨_, _, _, tc_3_60, fun c hc => by
  rw [memN1 hc]
  exact ⟨_, rfl, by decide, rfl, rfl, Or.inl rfl, rfl, fun _ => rfl, rfl⟩⟩
theorem fl_1 : zFl "ThinAir$Laws" 43 [2] 2 4 true false := ⟨_, _, _, tc_2_57, fun c hc => by
  rw [memN1 hc]
  exact ⟨_, rfl, by decide, rfl, rfl, Or.inl rfl, rfl, fun h => (nomatch h), rfl⟩⟩
theorem fl_2 : zFl "ThinAir$Laws" 49 [2] 5 1 true false := ⟨_, _, _, tc_2_67, fun c hc => by
  rw [memN1 hc]
  exact ⟨_, rfl, by decide, rfl, rfl, Or.inl rfl, rfl, fun h => (nomatch h), rfl⟩⟩
theorem fl_3 : zFl "ThinAir$Laws" 57 [3] 0 1 true false := ⟨_, _, _, tc_2_12, fun c hc => by
  rw [memN1 hc]
  exact ⟨_, rfl, by decide, rfl, rfl, Or.inl rfl, rfl, fun h => (nomatch h), rfl⟩⟩
theorem fl_4 : zFl "ThinAir$Laws" 62 [3] 1 1 true false := ⟨_, _, _, tc_2_16, fun c hc => by
  rw [memN1 hc]
  exact ⟨_, rfl, by decide, rfl, rfl, Or.inl rfl, rfl, fun h => (nomatch h), rfl⟩⟩
theorem fl_5 : zFl "ThinAir$Laws" 65 [3] 2 1 true false := ⟨_, _, _, tc_2_19, fun c hc => by
  rw [memN1 hc]
  exact ⟨_, rfl, by decide, rfl, rfl, Or.inl rfl, rfl, fun h => (nomatch h), rfl⟩⟩
theorem fl_6 : zFl "ThinAir$Laws" 68 [2] 6 1 true false := ⟨_, _, _, tc_2_71, fun c hc => by
  rw [memN1 hc]
  exact ⟨_, rfl, by decide, rfl, rfl, Or.inl rfl, rfl, fun h => (nomatch h), rfl⟩⟩
theorem fl_7 : zFl "ThinAir$Laws" 71 [2] 4 1 true false := ⟨_, _, _, tc_2_64, fun c hc => by
  rw [memN1 hc]
  exact ⟨_, rfl, by decide, rfl, rfl, Or.inl rfl, rfl, fun h => (nomatch h), rfl⟩⟩
theorem fl_8 : zFl "ThinAir$Laws" 78 [2] 8 1 false false := ⟨_, _, _, tc_2_77, fun c hc => by
  rw [memN1 hc]
  exact ⟨_, rfl, by decide, rfl, rfl, Or.inl rfl, rfl, fun h => (nomatch h), rfl⟩⟩
theorem fl_9 : zFl "ThinAir$Mark" 9 [2] 0 1 true true := ⟨_, _, _, tc_2_51, fun c hc => by
  rw [memN1 hc]
  exact ⟨_, rfl, by decide, rfl, rfl, Or.inl rfl, rfl, fun _ => rfl, rfl⟩⟩
theorem fl_10 : zFl "ThinAir$Mark" 15 [2] 1 1 true true := ⟨_, _, _, tc_2_54, fun c hc => by
  rw [memN1 hc]
  exact ⟨_, rfl, by decide, rfl, rfl, Or.inl rfl, rfl, fun _ => rfl, rfl⟩⟩
theorem fl_11 : zFl "ThinAir$Mark" 18 [2] 2 4 true true := ⟨_, _, _, tc_2_56, fun c hc => by
  rw [memN1 hc]
  exact ⟨_, rfl, by decide, rfl, rfl, Or.inl rfl, rfl, fun _ => rfl, rfl⟩⟩
theorem fl_12 : zFl "ThinAir$Mark" 22 [2] 3 1 true true := ⟨_, _, _, tc_2_60, fun c hc => by
  rw [memN1 hc]
  exact ⟨_, rfl, by decide, rfl, rfl, Or.inl rfl, rfl, fun _ => rfl, rfl⟩⟩
theorem fl_13 : zFl "ThinAir$Mark" 25 [2] 4 1 true true := ⟨_, _, _, tc_2_63, fun c hc => by
  rw [memN1 hc]
  exact ⟨_, rfl, by decide, rfl, rfl, Or.inl rfl, rfl, fun _ => rfl, rfl⟩⟩
theorem fl_14 : zFl "ThinAir$Mark" 28 [2] 5 1 true true := ⟨_, _, _, tc_2_66, fun c hc => by
  rw [memN1 hc]
  exact ⟨_, rfl, by decide, rfl, rfl, Or.inl rfl, rfl, fun _ => rfl, rfl⟩⟩
theorem fl_15 : zFl "ThinAir$Mark" 31 [2] 6 1 true true := ⟨_, _, _, tc_2_70, fun c hc => by
  rw [memN1 hc]
  exact ⟨_, rfl, by decide, rfl, rfl, Or.inl rfl, rfl, fun _ => rfl, rfl⟩⟩
theorem fl_16 : zFl "ThinAir$Mark" 34 [2] 7 1 false true := ⟨_, _, _, tc_2_73, fun c hc => by
  rw [memN1 hc]
  exact ⟨_, rfl, by decide, rfl, rfl, Or.inl rfl, rfl, fun _ => rfl, rfl⟩⟩
theorem fl_17 : zFl "ThinAir$Mark" 37 [2] 8 1 false true := ⟨_, _, _, tc_2_76, fun c hc => by
  rw [memN1 hc]
  exact ⟨_, rfl, by decide, rfl, rfl, Or.inl rfl, rfl, fun _ => rfl, rfl⟩⟩
theorem fl_18 : zFl "ThinAir$Mark" 40 [2] 9 1 false true := ⟨_, _, _, tc_2_79, fun c hc => by
  rw [memN1 hc]
  exact ⟨_, rfl, by decide, rfl, rfl, Or.inl rfl, rfl, fun _ => rfl, rfl⟩⟩
theorem fl_19 : zFl "ThinAir$Mark" 51 [3] 2 1 true false := ⟨_, _, _, tc_2_18, fun c hc => by
  rw [memN1 hc]
  exact ⟨_, rfl, by decide, rfl, rfl, Or.inl rfl, rfl, fun h => (nomatch h), rfl⟩⟩
theorem fl_20 : zFl "ThinAir$Mark" 48 [3] 1 1 true false := ⟨_, _, _, tc_2_15, fun c hc => by
  rw [memN1 hc]
  exact ⟨_, rfl, by decide, rfl, rfl, Or.inl rfl, rfl, fun h => (nomatch h), rfl⟩⟩
theorem fl_21 : zFl "ThinAir$Mark" 43 [3] 0 1 true false := ⟨_, _, _, tc_2_11, fun c hc => by
  rw [memN1 hc]
  exact ⟨_, rfl, by decide, rfl, rfl, Or.inl rfl, rfl, fun h => (nomatch h), rfl⟩⟩
theorem fl_22 : zFl "ThinAir$Place" 7 [3] 0 1 true true := ⟨_, _, _, tc_2_10, fun c hc => by
  rw [memN1 hc]
  exact ⟨_, rfl, by decide, rfl, rfl, Or.inl rfl, rfl, fun _ => rfl, rfl⟩⟩
theorem fl_23 : zFl "ThinAir$Place" 13 [3] 1 1 true true := ⟨_, _, _, tc_2_14, fun c hc => by
  rw [memN1 hc]
  exact ⟨_, rfl, by decide, rfl, rfl, Or.inl rfl, rfl, fun _ => rfl, rfl⟩⟩
theorem fl_24 : zFl "ThinAir$Place" 16 [3] 2 1 true true := ⟨_, _, _, tc_2_17, fun c hc => by
  rw [memN1 hc]
  exact ⟨_, rfl, by decide, rfl, rfl, Or.inl rfl, rfl, fun _ => rfl, rfl⟩⟩
theorem fl_25 : zFl "ThinAir$Place" 19 [3] 3 1 true true := ⟨_, _, _, tc_2_20, fun c hc => by
  rw [memN1 hc]
  exact ⟨_, rfl, by decide, rfl, rfl, Or.inl rfl, rfl, fun _ => rfl, rfl⟩⟩
theorem fl_26 : zFl "ThinAir$Ranking" 9 [4] 0 4 true true := ⟨_, _, _, tc_1_77, fun c hc => by
  rw [memN1 hc]
  exact ⟨_, rfl, by decide, rfl, rfl, Or.inl rfl, rfl, fun _ => rfl, rfl⟩⟩
theorem fl_27 : zFl "ThinAir$Ranking" 15 [4] 1 4 true true := ⟨_, _, _, tc_1_79, fun c hc => by
  rw [memN1 hc]
  exact ⟨_, rfl, by decide, rfl, rfl, Or.inl rfl, rfl, fun _ => rfl, rfl⟩⟩
theorem fl_28 : zFl "ThinAir$Ranking" 18 [4] 2 4 true true := ⟨_, _, _, tc_1_81, fun c hc => by
  rw [memN1 hc]
  exact ⟨_, rfl, by decide, rfl, rfl, Or.inl rfl, rfl, fun _ => rfl, rfl⟩⟩
theorem fl_29 : zFl "ThinAir$Ranking" 21 [4] 3 1 false true := ⟨_, _, _, tc_1_83, fun c hc => by
  rw [memN1 hc]
  exact ⟨_, rfl, by decide, rfl, rfl, Or.inl rfl, rfl, fun _ => rfl, rfl⟩⟩
theorem fl_30 : zFl "ThinAir$Ranking" 31 [2] 0 1 true false := ⟨_, _, _, tc_2_52, fun c hc => by
  rw [memN1 hc]
  exact ⟨_, rfl, by decide, rfl, rfl, Or.inl rfl, rfl, fun h => (nomatch h), rfl⟩⟩
theorem fl_31 : zFl "ThinAir$Reader" 9 [9] 1 4 true false := ⟨_, _, _, tc_1_57, fun c hc => by
  rw [memN1 hc]
  exact ⟨_, rfl, by decide, rfl, rfl, Or.inl rfl, rfl, fun h => (nomatch h), rfl⟩⟩
theorem fl_32 : zFl "ThinAir$Reader" 15 [5] 0 4 true true := ⟨_, _, _, tc_2_168, fun c hc => by
  rw [memN1 hc]
  exact ⟨_, rfl, by decide, rfl, rfl, Or.inl rfl, rfl, fun _ => rfl, rfl⟩⟩
theorem fl_33 : zFl "ThinAir$Reader" 18 [9] 0 1 false false := ⟨_, _, _, tc_1_38, fun c hc => by
  rw [memN1 hc]
  exact ⟨_, rfl, by decide, rfl, rfl, Or.inr tc_1_39, rfl, fun h => (nomatch h), rfl⟩⟩
theorem fl_34 : zFl "ThinAir$Reader" 22 [5] 1 1 true true := ⟨_, _, _, tc_2_169, fun c hc => by
  rw [memN1 hc]
  exact ⟨_, rfl, by decide, rfl, rfl, Or.inl rfl, rfl, fun _ => rfl, rfl⟩⟩
theorem fl_35 : zFl "ThinAir$Reader" 23 [5] 2 1 false true := ⟨_, _, _, tc_2_170, fun c hc => by
  rw [memN1 hc]
  exact ⟨_, rfl, by decide, rfl, rfl, Or.inl rfl, rfl, fun _ => rfl, rfl⟩⟩
theorem fl_36 : zFl "ThinAir$Row" 9 [6] 1 4 true true := ⟨_, _, _, tc_1_35, fun c hc => by
  rw [memN1 hc]
  exact ⟨_, rfl, by decide, rfl, rfl, Or.inl rfl, rfl, fun _ => rfl, rfl⟩⟩
theorem fl_37 : zFl "ThinAir$Row" 19 [6] 0 1 false false := ⟨_, _, _, tc_1_40, fun c hc => by
  rw [memN1 hc]
  exact ⟨_, rfl, by decide, rfl, rfl, Or.inr tc_1_41, rfl, fun h => (nomatch h), rfl⟩⟩
theorem fl_38 : zFl "ThinAir$Rules" 9 [7] 1 1 false true := ⟨_, _, _, tc_2_189, fun c hc => by
  rw [memN1 hc]
  exact ⟨_, rfl, by decide, rfl, rfl, Or.inl rfl, rfl, fun _ => rfl, rfl⟩⟩
theorem fl_39 : zFl "ThinAir$Rules" 15 [7] 2 1 false true := ⟨_, _, _, tc_2_190, fun c hc => by
  rw [memN1 hc]
  exact ⟨_, rfl, by decide, rfl, rfl, Or.inl rfl, rfl, fun _ => rfl, rfl⟩⟩
theorem fl_40 : zFl "ThinAir$Rules" 45 [7] 0 3 false true := ⟨_, _, _, tc_2_188, fun c hc => by
  rw [memN1 hc]
  exact ⟨_, rfl, by decide, rfl, rfl, Or.inl rfl, rfl, fun _ => rfl, rfl⟩⟩
theorem fl_41 : zFl "ThinAir$Rules" 55 [7] 4 1 false true := ⟨_, _, _, tc_2_192, fun c hc => by
  rw [memN1 hc]
  exact ⟨_, rfl, by decide, rfl, rfl, Or.inl rfl, rfl, fun _ => rfl, rfl⟩⟩
theorem fl_42 : zFl "ThinAir$Rules" 65 [7] 3 1 false true := ⟨_, _, _, tc_2_191, fun c hc => by
  rw [memN1 hc]
  exact ⟨_, rfl, by decide, rfl, rfl, Or.inl rfl, rfl, fun _ => rfl, rfl⟩⟩
theorem fl_43 : zFl "ThinAir$Rules" 68 [7] 5 3 false true := ⟨_, _, _, tc_2_193, fun c hc => by
  rw [memN1 hc]
  exact ⟨_, rfl, by decide, rfl, rfl, Or.inl rfl, rfl, fun _ => rfl, rfl⟩⟩
theorem fl_44 : zFl "ThinAir$Rules" 71 [7] 6 3 false true := ⟨_, _, _, tc_2_194, fun c hc => by
  rw [memN1 hc]
  exact ⟨_, rfl, by decide, rfl, rfl, Or.inl rfl, rfl, fun _ => rfl, rfl⟩⟩
theorem fl_45 : zFl "ThinAir$Rules" 74 [7] 7 3 false true := ⟨_, _, _, tc_2_195, fun c hc => by
  rw [memN1 hc]
  exact ⟨_, rfl, by decide, rfl, rfl, Or.inl rfl, rfl, fun _ => rfl, rfl⟩⟩
theorem fl_46 : zFl "ThinAir$Rules" 77 [7] 8 3 false true := ⟨_, _, _, tc_2_196, fun c hc => by
  rw [memN1 hc]
  exact ⟨_, rfl, by decide, rfl, rfl, Or.inl rfl, rfl, fun _ => rfl, rfl⟩⟩
theorem fl_47 : zFl "ThinAir$Rules" 80 [2] 5 1 true false := ⟨_, _, _, tc_2_68, fun c hc => by
  rw [memN1 hc]
  exact ⟨_, rfl, by decide, rfl, rfl, Or.inl rfl, rfl, fun h => (nomatch h), rfl⟩⟩
theorem fl_48 : zFl "ThinAir$Rules" 85 [2] 2 4 true false := ⟨_, _, _, tc_2_58, fun c hc => by
  rw [memN1 hc]
  exact ⟨_, rfl, by decide, rfl, rfl, Or.inl rfl, rfl, fun h => (nomatch h), rfl⟩⟩
theorem fl_49 : zFl "ThinAir$Rules" 89 [3] 0 1 true false := ⟨_, _, _, tc_2_13, fun c hc => by
  rw [memN1 hc]
  exact ⟨_, rfl, by decide, rfl, rfl, Or.inl rfl, rfl, fun h => (nomatch h), rfl⟩⟩
theorem fl_50 : zFl "ThinAir$Rules" 94 [2] 3 1 true false := ⟨_, _, _, tc_2_61, fun c hc => by
  rw [memN1 hc]
  exact ⟨_, rfl, by decide, rfl, rfl, Or.inl rfl, rfl, fun h => (nomatch h), rfl⟩⟩
theorem fl_51 : zFl "ThinAir$Rules" 97 [2] 6 1 true false := ⟨_, _, _, tc_2_72, fun c hc => by
  rw [memN1 hc]
  exact ⟨_, rfl, by decide, rfl, rfl, Or.inl rfl, rfl, fun h => (nomatch h), rfl⟩⟩
theorem fl_52 : zFl "ThinAir$Rules" 100 [2] 7 1 false false := ⟨_, _, _, tc_2_74, fun c hc => by
  rw [memN1 hc]
  exact ⟨_, rfl, by decide, rfl, rfl, Or.inl rfl, rfl, fun h => (nomatch h), rfl⟩⟩
theorem fl_53 : zFl "ThinAir$Strip" 7 [6, 9] 0 1 false true := ⟨_, _, _, tc_1_37, fun c hc => by
  rcases memN2 hc with rfl | rfl
  · exact ⟨_, rfl, by decide, rfl, rfl, Or.inl rfl, rfl, fun _ => rfl, rfl⟩
  · exact ⟨_, rfl, by decide, rfl, rfl, Or.inl rfl, rfl, fun _ => rfl, rfl⟩⟩
theorem fl_54 : zFl "ThinAir$Text" 9 [9] 1 4 true true := ⟨_, _, _, tc_1_58, fun c hc => by
  rw [memN1 hc]
  exact ⟨_, rfl, by decide, rfl, rfl, Or.inl rfl, rfl, fun _ => rfl, rfl⟩⟩
theorem fl_55 : zFl "ThinAir$Text" 19 [9] 0 1 false false := ⟨_, _, _, tc_1_42, fun c hc => by
  rw [memN1 hc]
  exact ⟨_, rfl, by decide, rfl, rfl, Or.inr tc_1_39, rfl, fun h => (nomatch h), rfl⟩⟩
theorem fl_56 : zFl "ThinAir" 11 [10] 0 4 true true := ⟨_, _, _, tc_1_94, fun c hc => by
  rw [memN1 hc]
  exact ⟨_, rfl, by decide, rfl, rfl, Or.inl rfl, rfl, fun _ => rfl, rfl⟩⟩
theorem fl_57 : zFl "ThinAir" 18 [10] 1 4 true true := ⟨_, _, _, tc_1_95, fun c hc => by
  rw [memN1 hc]
  exact ⟨_, rfl, by decide, rfl, rfl, Or.inl rfl, rfl, fun _ => rfl, rfl⟩⟩
theorem fl_58 : zFl "ThinAir" 25 [10] 2 4 true true := ⟨_, _, _, tc_1_96, fun c hc => by
  rw [memN1 hc]
  exact ⟨_, rfl, by decide, rfl, rfl, Or.inl rfl, rfl, fun _ => rfl, rfl⟩⟩
theorem fl_59 : zFl "ThinAir" 31 [10] 3 4 true true := ⟨_, _, _, tc_1_97, fun c hc => by
  rw [memN1 hc]
  exact ⟨_, rfl, by decide, rfl, rfl, Or.inl rfl, rfl, fun _ => rfl, rfl⟩⟩
theorem fl_60 : zFl "ThinAir" 37 [10] 4 4 true true := ⟨_, _, _, tc_1_98, fun c hc => by
  rw [memN1 hc]
  exact ⟨_, rfl, by decide, rfl, rfl, Or.inl rfl, rfl, fun _ => rfl, rfl⟩⟩
theorem fl_61 : zFl "ThinAir" 44 [10] 5 4 true true := ⟨_, _, _, tc_1_99, fun c hc => by
  rw [memN1 hc]
  exact ⟨_, rfl, by decide, rfl, rfl, Or.inl rfl, rfl, fun _ => rfl, rfl⟩⟩
theorem fl_62 : zFl "ThinAir" 48 [10] 6 4 true true := ⟨_, _, _, tc_1_100, fun c hc => by
  rw [memN1 hc]
  exact ⟨_, rfl, by decide, rfl, rfl, Or.inl rfl, rfl, fun _ => rfl, rfl⟩⟩
theorem fl_63 : zFl "ThinAir" 51 [10] 7 4 true true := ⟨_, _, _, tc_1_101, fun c hc => by
  rw [memN1 hc]
  exact ⟨_, rfl, by decide, rfl, rfl, Or.inl rfl, rfl, fun _ => rfl, rfl⟩⟩
theorem fl_64 : zFl "ThinAir" 55 [10] 14 5 false true := ⟨_, _, _, tc_1_108, fun c hc => by
  rw [memN1 hc]
  exact ⟨_, rfl, by decide, rfl, rfl, Or.inl rfl, rfl, fun _ => rfl, rfl⟩⟩
theorem fl_65 : zFl "ThinAir" 79 [6] 1 4 true false := ⟨_, _, _, tc_1_36, fun c hc => by
  rw [memN1 hc]
  exact ⟨_, rfl, by decide, rfl, rfl, Or.inl rfl, rfl, fun h => (nomatch h), rfl⟩⟩
theorem fl_66 : zFl "ThinAir" 85 [6] 0 1 false false := ⟨_, _, _, tc_1_43, fun c hc => by
  rw [memN1 hc]
  exact ⟨_, rfl, by decide, rfl, rfl, Or.inr tc_1_41, rfl, fun h => (nomatch h), rfl⟩⟩
theorem fl_67 : zFl "ThinAir" 110 [9] 1 4 true false := ⟨_, _, _, tc_1_59, fun c hc => by
  rw [memN1 hc]
  exact ⟨_, rfl, by decide, rfl, rfl, Or.inl rfl, rfl, fun h => (nomatch h), rfl⟩⟩
theorem fl_68 : zFl "ThinAir" 114 [10] 8 1 false true := ⟨_, _, _, tc_1_102, fun c hc => by
  rw [memN1 hc]
  exact ⟨_, rfl, by decide, rfl, rfl, Or.inl rfl, rfl, fun _ => rfl, rfl⟩⟩
theorem fl_69 : zFl "ThinAir" 121 [10] 9 1 false true := ⟨_, _, _, tc_1_103, fun c hc => by
  rw [memN1 hc]
  exact ⟨_, rfl, by decide, rfl, rfl, Or.inl rfl, rfl, fun _ => rfl, rfl⟩⟩
theorem fl_70 : zFl "ThinAir" 134 [10] 10 1 false true := ⟨_, _, _, tc_1_104, fun c hc => by
  rw [memN1 hc]
  exact ⟨_, rfl, by decide, rfl, rfl, Or.inl rfl, rfl, fun _ => rfl, rfl⟩⟩
theorem fl_71 : zFl "ThinAir" 149 [2] 7 1 false false := ⟨_, _, _, tc_2_75, fun c hc => by
  rw [memN1 hc]
  exact ⟨_, rfl, by decide, rfl, rfl, Or.inl rfl, rfl, fun h => (nomatch h), rfl⟩⟩
theorem fl_72 : zFl "ThinAir" 159 [2] 9 1 false false := ⟨_, _, _, tc_2_80, fun c hc => by
  rw [memN1 hc]
  exact ⟨_, rfl, by decide, rfl, rfl, Or.inl rfl, rfl, fun h => (nomatch h), rfl⟩⟩
theorem fl_73 : zFl "ThinAir" 165 [2] 8 1 false false := ⟨_, _, _, tc_2_78, fun c hc => by
  rw [memN1 hc]
  exact ⟨_, rfl, by decide, rfl, rfl, Or.inl rfl, rfl, fun h => (nomatch h), rfl⟩⟩
theorem fl_74 : zFl "ThinAir" 183 [5] 2 1 false false := ⟨_, _, _, tc_2_171, fun c hc => by
  rw [memN1 hc]
  exact ⟨_, rfl, by decide, rfl, rfl, Or.inl rfl, rfl, fun h => (nomatch h), rfl⟩⟩
theorem fl_75 : zFl "ThinAir" 186 [1] 0 4 true false := ⟨_, _, _, tc_3_61, fun c hc => by
  rw [memN1 hc]
  exact ⟨_, rfl, by decide, rfl, rfl, Or.inl rfl, rfl, fun h => (nomatch h), rfl⟩⟩
theorem fl_76 : zFl "ThinAir" 213 [2] 4 1 true false := ⟨_, _, _, tc_2_65, fun c hc => by
  rw [memN1 hc]
  exact ⟨_, rfl, by decide, rfl, rfl, Or.inl rfl, rfl, fun h => (nomatch h), rfl⟩⟩
theorem fl_77 : zFl "ThinAir" 225 [2] 5 1 true false := ⟨_, _, _, tc_2_69, fun c hc => by
  rw [memN1 hc]
  exact ⟨_, rfl, by decide, rfl, rfl, Or.inl rfl, rfl, fun h => (nomatch h), rfl⟩⟩
theorem fl_78 : zFl "ThinAir" 236 [4] 3 1 false false := ⟨_, _, _, tc_1_84, fun c hc => by
  rw [memN1 hc]
  exact ⟨_, rfl, by decide, rfl, rfl, Or.inl rfl, rfl, fun h => (nomatch h), rfl⟩⟩
theorem fl_79 : zFl "ThinAir" 237 [4] 0 4 true false := ⟨_, _, _, tc_1_78, fun c hc => by
  rw [memN1 hc]
  exact ⟨_, rfl, by decide, rfl, rfl, Or.inl rfl, rfl, fun h => (nomatch h), rfl⟩⟩
theorem fl_80 : zFl "ThinAir" 240 [4] 1 4 true false := ⟨_, _, _, tc_1_80, fun c hc => by
  rw [memN1 hc]
  exact ⟨_, rfl, by decide, rfl, rfl, Or.inl rfl, rfl, fun h => (nomatch h), rfl⟩⟩
theorem fl_81 : zFl "ThinAir" 246 [4] 2 4 true false := ⟨_, _, _, tc_1_82, fun c hc => by
  rw [memN1 hc]
  exact ⟨_, rfl, by decide, rfl, rfl, Or.inl rfl, rfl, fun h => (nomatch h), rfl⟩⟩
theorem fl_82 : zFl "ThinAir" 254 [2] 2 4 true false := ⟨_, _, _, tc_2_59, fun c hc => by
  rw [memN1 hc]
  exact ⟨_, rfl, by decide, rfl, rfl, Or.inl rfl, rfl, fun h => (nomatch h), rfl⟩⟩
theorem fl_83 : zFl "ThinAir" 258 [3] 3 1 true false := ⟨_, _, _, tc_2_21, fun c hc => by
  rw [memN1 hc]
  exact ⟨_, rfl, by decide, rfl, rfl, Or.inl rfl, rfl, fun h => (nomatch h), rfl⟩⟩
theorem fl_84 : zFl "ThinAir" 261 [2] 3 1 true false := ⟨_, _, _, tc_2_62, fun c hc => by
  rw [memN1 hc]
  exact ⟨_, rfl, by decide, rfl, rfl, Or.inl rfl, rfl, fun h => (nomatch h), rfl⟩⟩
theorem fl_85 : zFl "ThinAir" 270 [10] 11 1 false true := ⟨_, _, _, tc_1_105, fun c hc => by
  rw [memN1 hc]
  exact ⟨_, rfl, by decide, rfl, rfl, Or.inl rfl, rfl, fun _ => rfl, rfl⟩⟩
theorem fl_86 : zFl "ThinAir" 273 [10] 13 5 false true := ⟨_, _, _, tc_1_107, fun c hc => by
  rw [memN1 hc]
  exact ⟨_, rfl, by decide, rfl, rfl, Or.inl rfl, rfl, fun _ => rfl, rfl⟩⟩
theorem fl_87 : zFl "ThinAir" 290 [10] 12 1 false true := ⟨_, _, _, tc_1_106, fun c hc => by
  rw [memN1 hc]
  exact ⟨_, rfl, by decide, rfl, rfl, Or.inl rfl, rfl, fun _ => rfl, rfl⟩⟩
theorem fl_88 : zFl "ThinAir" 324 [2] 0 1 true false := ⟨_, _, _, tc_2_53, fun c hc => by
  rw [memN1 hc]
  exact ⟨_, rfl, by decide, rfl, rfl, Or.inl rfl, rfl, fun h => (nomatch h), rfl⟩⟩
theorem fl_89 : zFl "ThinAir" 339 [7] 8 3 false false := ⟨_, _, _, tc_2_197, fun c hc => by
  rw [memN1 hc]
  exact ⟨_, rfl, by decide, rfl, rfl, Or.inl rfl, rfl, fun h => (nomatch h), rfl⟩⟩
theorem fl_90 : zFl "ThinAir" 350 [2] 1 1 true false := ⟨_, _, _, tc_2_55, fun c hc => by
  rw [memN1 hc]
  exact ⟨_, rfl, by decide, rfl, rfl, Or.inl rfl, rfl, fun h => (nomatch h), rfl⟩⟩
theorem fl_91 : zFl "ThinAirModel" 7 [11] 1 4 true true := ⟨_, _, _, tc_4_90, fun c hc => by
  rw [memN1 hc]
  exact ⟨_, rfl, by decide, rfl, rfl, Or.inl rfl, rfl, fun _ => rfl, rfl⟩⟩
theorem fl_92 : zFl "ThinAirModel" 13 [11] 4 5 false true := ⟨_, _, _, tc_4_93, fun c hc => by
  rw [memN1 hc]
  exact ⟨_, rfl, by decide, rfl, rfl, Or.inl rfl, rfl, fun _ => rfl, rfl⟩⟩
theorem fl_93 : zFl "ThinAirModel" 17 [11] 6 4 true true := ⟨_, _, _, tc_4_95, fun c hc => by
  rw [memN1 hc]
  exact ⟨_, rfl, by decide, rfl, rfl, Or.inl rfl, rfl, fun _ => rfl, rfl⟩⟩
theorem fl_94 : zFl "ThinAirModel" 20 [11] 7 4 true true := ⟨_, _, _, tc_4_96, fun c hc => by
  rw [memN1 hc]
  exact ⟨_, rfl, by decide, rfl, rfl, Or.inl rfl, rfl, fun _ => rfl, rfl⟩⟩
theorem fl_95 : zFl "ThinAirModel" 23 [11] 8 4 true true := ⟨_, _, _, tc_4_97, fun c hc => by
  rw [memN1 hc]
  exact ⟨_, rfl, by decide, rfl, rfl, Or.inl rfl, rfl, fun _ => rfl, rfl⟩⟩
theorem fl_96 : zFl "ThinAirModel" 26 [11] 9 4 true true := ⟨_, _, _, tc_4_98, fun c hc => by
  rw [memN1 hc]
  exact ⟨_, rfl, by decide, rfl, rfl, Or.inl rfl, rfl, fun _ => rfl, rfl⟩⟩
theorem fl_97 : zFl "ThinAirModel" 29 [11] 10 4 true true := ⟨_, _, _, tc_4_99, fun c hc => by
  rw [memN1 hc]
  exact ⟨_, rfl, by decide, rfl, rfl, Or.inl rfl, rfl, fun _ => rfl, rfl⟩⟩
theorem fl_98 : zFl "ThinAirModel" 32 [11] 12 4 true true := ⟨_, _, _, tc_4_101, fun c hc => by
  rw [memN1 hc]
  exact ⟨_, rfl, by decide, rfl, rfl, Or.inl rfl, rfl, fun _ => rfl, rfl⟩⟩
theorem fl_99 : zFl "ThinAirModel" 35 [11] 14 4 true true := ⟨_, _, _, tc_4_103, fun c hc => by
  rw [memN1 hc]
  exact ⟨_, rfl, by decide, rfl, rfl, Or.inl rfl, rfl, fun _ => rfl, rfl⟩⟩
theorem fl_100 : zFl "ThinAirModel" 38 [11] 15 4 true true := ⟨_, _, _, tc_4_104, fun c hc => by
  rw [memN1 hc]
  exact ⟨_, rfl, by decide, rfl, rfl, Or.inl rfl, rfl, fun _ => rfl, rfl⟩⟩
theorem fl_101 : zFl "ThinAirModel" 41 [11] 16 4 true true := ⟨_, _, _, tc_4_105, fun c hc => by
  rw [memN1 hc]
  exact ⟨_, rfl, by decide, rfl, rfl, Or.inl rfl, rfl, fun _ => rfl, rfl⟩⟩
theorem fl_102 : zFl "ThinAirModel" 44 [11] 20 4 true true := ⟨_, _, _, tc_4_109, fun c hc => by
  rw [memN1 hc]
  exact ⟨_, rfl, by decide, rfl, rfl, Or.inl rfl, rfl, fun _ => rfl, rfl⟩⟩
theorem fl_103 : zFl "ThinAirModel" 47 [11] 26 4 true true := ⟨_, _, _, tc_4_115, fun c hc => by
  rw [memN1 hc]
  exact ⟨_, rfl, by decide, rfl, rfl, Or.inl rfl, rfl, fun _ => rfl, rfl⟩⟩
theorem fl_104 : zFl "ThinAirModel" 51 [11] 27 4 true true := ⟨_, _, _, tc_4_116, fun c hc => by
  rw [memN1 hc]
  exact ⟨_, rfl, by decide, rfl, rfl, Or.inl rfl, rfl, fun _ => rfl, rfl⟩⟩
theorem fl_105 : zFl "ThinAirModel" 54 [11] 29 4 true true := ⟨_, _, _, tc_4_118, fun c hc => by
  rw [memN1 hc]
  exact ⟨_, rfl, by decide, rfl, rfl, Or.inl rfl, rfl, fun _ => rfl, rfl⟩⟩
theorem fl_106 : zFl "ThinAirModel" 57 [11] 30 4 true true := ⟨_, _, _, tc_4_119, fun c hc => by
  rw [memN1 hc]
  exact ⟨_, rfl, by decide, rfl, rfl, Or.inl rfl, rfl, fun _ => rfl, rfl⟩⟩
theorem fl_107 : zFl "ThinAirModel" 60 [11] 0 1 false true := ⟨_, _, _, tc_4_89, fun c hc => by
  rw [memN1 hc]
  exact ⟨_, rfl, by decide, rfl, rfl, Or.inl rfl, rfl, fun _ => rfl, rfl⟩⟩
theorem fl_108 : zFl "ThinAirModel" 64 [11] 2 1 false true := ⟨_, _, _, tc_4_91, fun c hc => by
  rw [memN1 hc]
  exact ⟨_, rfl, by decide, rfl, rfl, Or.inl rfl, rfl, fun _ => rfl, rfl⟩⟩
theorem fl_109 : zFl "ThinAirModel" 67 [11] 3 5 false true := ⟨_, _, _, tc_4_92, fun c hc => by
  rw [memN1 hc]
  exact ⟨_, rfl, by decide, rfl, rfl, Or.inl rfl, rfl, fun _ => rfl, rfl⟩⟩
theorem fl_110 : zFl "ThinAirModel" 98 [11] 5 1 false true := ⟨_, _, _, tc_4_94, fun c hc => by
  rw [memN1 hc]
  exact ⟨_, rfl, by decide, rfl, rfl, Or.inl rfl, rfl, fun _ => rfl, rfl⟩⟩
theorem fl_111 : zFl "ThinAirModel" 101 [11] 11 1 false true := ⟨_, _, _, tc_4_100, fun c hc => by
  rw [memN1 hc]
  exact ⟨_, rfl, by decide, rfl, rfl, Or.inl rfl, rfl, fun _ => rfl, rfl⟩⟩
theorem fl_112 : zFl "ThinAirModel" 107 [11] 13 1 false true := ⟨_, _, _, tc_4_102, fun c hc => by
  rw [memN1 hc]
  exact ⟨_, rfl, by decide, rfl, rfl, Or.inl rfl, rfl, fun _ => rfl, rfl⟩⟩
theorem fl_113 : zFl "ThinAirModel" 136 [11] 17 1 false true := ⟨_, _, _, tc_4_106, fun c hc => by
  rw [memN1 hc]
  exact ⟨_, rfl, by decide, rfl, rfl, Or.inl rfl, rfl, fun _ => rfl, rfl⟩⟩
theorem fl_114 : zFl "ThinAirModel" 142 [11] 18 1 false true := ⟨_, _, _, tc_4_107, fun c hc => by
  rw [memN1 hc]
  exact ⟨_, rfl, by decide, rfl, rfl, Or.inl rfl, rfl, fun _ => rfl, rfl⟩⟩
theorem fl_115 : zFl "ThinAirModel" 155 [11] 25 1 false true := ⟨_, _, _, tc_4_114, fun c hc => by
  rw [memN1 hc]
  exact ⟨_, rfl, by decide, rfl, rfl, Or.inl rfl, rfl, fun _ => rfl, rfl⟩⟩
theorem fl_116 : zFl "ThinAirModel" 158 [11] 21 1 false true := ⟨_, _, _, tc_4_110, fun c hc => by
  rw [memN1 hc]
  exact ⟨_, rfl, by decide, rfl, rfl, Or.inl rfl, rfl, fun _ => rfl, rfl⟩⟩
theorem fl_117 : zFl "ThinAirModel" 161 [11] 22 1 false true := ⟨_, _, _, tc_4_111, fun c hc => by
  rw [memN1 hc]
  exact ⟨_, rfl, by decide, rfl, rfl, Or.inl rfl, rfl, fun _ => rfl, rfl⟩⟩
theorem fl_118 : zFl "ThinAirModel" 164 [11] 23 1 false true := ⟨_, _, _, tc_4_112, fun c hc => by
  rw [memN1 hc]
  exact ⟨_, rfl, by decide, rfl, rfl, Or.inl rfl, rfl, fun _ => rfl, rfl⟩⟩
theorem fl_119 : zFl "ThinAirModel" 167 [11] 24 1 false true := ⟨_, _, _, tc_4_113, fun c hc => by
  rw [memN1 hc]
  exact ⟨_, rfl, by decide, rfl, rfl, Or.inl rfl, rfl, fun _ => rfl, rfl⟩⟩
theorem fl_120 : zFl "ThinAirModel" 170 [11] 19 1 false true := ⟨_, _, _, tc_4_108, fun c hc => by
  rw [memN1 hc]
  exact ⟨_, rfl, by decide, rfl, rfl, Or.inl rfl, rfl, fun _ => rfl, rfl⟩⟩
theorem fl_121 : zFl "ThinAirModel" 234 [11] 28 1 false true := ⟨_, _, _, tc_4_117, fun c hc => by
  rw [memN1 hc]
  exact ⟨_, rfl, by decide, rfl, rfl, Or.inl rfl, rfl, fun _ => rfl, rfl⟩⟩
theorem fl_122 : zFl "ThinAirModel" 258 [11] 31 5 false true := ⟨_, _, _, tc_4_120, fun c hc => by
  rw [memN1 hc]
  exact ⟨_, rfl, by decide, rfl, rfl, Or.inl rfl, rfl, fun _ => rfl, rfl⟩⟩
