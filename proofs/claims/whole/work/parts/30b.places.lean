theorem ob_0 : zOb 0 10 := ⟨by decide, _, fun _ _ => rfl⟩
theorem fr_0_0 : zFr 0 10 0 1 := ⟨by decide, _, fun _ _ => rfl, fun _ => rfl⟩
theorem fr_0_1 : zFr 0 10 1 17 := ⟨by decide, _, fun _ _ => rfl, fun _ => rfl⟩
theorem fr_0_2 : zFr 0 10 2 22 := ⟨by decide, _, fun _ _ => rfl, fun _ => rfl⟩
theorem fr_0_3 : zFr 0 10 3 75 := ⟨by decide, _, fun _ _ => rfl, fun _ => rfl⟩
theorem fr_0_4 : zFr 0 10 4 77 := ⟨by decide, _, fun _ _ => rfl, fun _ => rfl⟩
theorem fr_0_5 : zFr 0 10 5 79 := ⟨by decide, _, fun _ _ => rfl, fun _ => rfl⟩
theorem fr_0_6 : zFr 0 10 6 80 := ⟨by decide, _, fun _ _ => rfl, fun _ => rfl⟩
theorem fr_0_7 : zFr 0 10 7 84 := ⟨by decide, _, fun _ _ => rfl, fun _ => rfl⟩
theorem fr_0_8 : zFr 0 10 8 87 := ⟨by decide, _, fun _ _ => rfl, fun _ => rfl⟩
theorem fr_0_9 : zFr 0 10 9 89 := ⟨by decide, _, fun _ _ => rfl, fun _ => rfl⟩
theorem fr_0_10 : zFr 0 10 10 96 := ⟨by decide, _, fun _ _ => rfl, fun _ => rfl⟩
theorem ob_22 : zOb 22 6 := ⟨by decide, _, fun _ _ => rfl⟩
theorem fr_22_0 : zFr 22 6 0 23 := ⟨by decide, _, fun _ _ => rfl, fun _ => rfl⟩
theorem fr_22_1 : zFr 22 6 1 24 := ⟨by decide, _, fun _ _ => rfl, fun _ => rfl⟩
theorem fi_22_2 : zFi 22 6 2 := ⟨by decide, _, fun _ _ => rfl, fun _ => rfl, fun i x => by simp [upd]⟩
theorem fi_22_3 : zFi 22 6 3 := ⟨by decide, _, fun _ _ => rfl, fun _ => rfl, fun i x => by simp [upd]⟩
theorem ar_24 : zAr 24 10 := ⟨by decide, by decide, fun _ _ => rfl⟩
theorem ob_75 : zOb 75 0 := ⟨by decide, _, fun _ _ => rfl⟩
theorem fr_75_0 : zFr 75 0 0 76 := ⟨by decide, _, fun _ _ => rfl, fun _ => rfl⟩
theorem fi_75_1 : zFi 75 0 1 := ⟨by decide, _, fun _ _ => rfl, fun _ => rfl, fun i x => by simp [upd]⟩
theorem ar_76 : zAr 76 400 := ⟨by decide, by decide, fun _ _ => rfl⟩
theorem ob_77 : zOb 77 0 := ⟨by decide, _, fun _ _ => rfl⟩
theorem fr_77_0 : zFr 77 0 0 78 := ⟨by decide, _, fun _ _ => rfl, fun _ => rfl⟩
theorem fi_77_1 : zFi 77 0 1 := ⟨by decide, _, fun _ _ => rfl, fun _ => rfl, fun i x => by simp [upd]⟩
theorem ar_78 : zAr 78 160 := ⟨by decide, by decide, fun _ _ => rfl⟩
theorem ob_79 : zOb 79 7 := ⟨by decide, _, fun _ _ => rfl⟩
theorem fr_79_0 : zFr 79 7 0 75 := ⟨by decide, _, fun _ _ => rfl, fun _ => rfl⟩
theorem fi_79_1 : zFi 79 7 1 := ⟨by decide, _, fun _ _ => rfl, fun _ => rfl, fun i x => by simp [upd]⟩
theorem fi_79_2 : zFi 79 7 2 := ⟨by decide, _, fun _ _ => rfl, fun _ => rfl, fun i x => by simp [upd]⟩
theorem fi_79_3 : zFi 79 7 3 := ⟨by decide, _, fun _ _ => rfl, fun _ => rfl, fun i x => by simp [upd]⟩
theorem fi_79_4 : zFi 79 7 4 := ⟨by decide, _, fun _ _ => rfl, fun _ => rfl, fun i x => by simp [upd]⟩
theorem fi_79_5 : zFi 79 7 5 := ⟨by decide, _, fun _ _ => rfl, fun _ => rfl, fun i x => by simp [upd]⟩
theorem ob_80 : zOb 80 1 := ⟨by decide, _, fun _ _ => rfl⟩
theorem fr_80_0 : zFr 80 1 0 81 := ⟨by decide, _, fun _ _ => rfl, fun _ => rfl⟩
theorem fr_80_1 : zFr 80 1 1 82 := ⟨by decide, _, fun _ _ => rfl, fun _ => rfl⟩
theorem fr_80_2 : zFr 80 1 2 83 := ⟨by decide, _, fun _ _ => rfl, fun _ => rfl⟩
theorem ar_81 : zAr 81 8 := ⟨by decide, by decide, fun _ _ => rfl⟩
theorem ar_82 : zAr 82 8 := ⟨by decide, by decide, fun _ _ => rfl⟩
theorem ar_83 : zAr 83 8 := ⟨by decide, by decide, fun _ _ => rfl⟩
theorem ob_84 : zOb 84 4 := ⟨by decide, _, fun _ _ => rfl⟩
theorem fr_84_0 : zFr 84 4 0 85 := ⟨by decide, _, fun _ _ => rfl, fun _ => rfl⟩
theorem fr_84_1 : zFr 84 4 1 86 := ⟨by decide, _, fun _ _ => rfl, fun _ => rfl⟩
theorem ar_85 : zAr 85 256 := ⟨by decide, by decide, fun _ _ => rfl⟩
theorem ar_86 : zAr 86 256 := ⟨by decide, by decide, fun _ _ => rfl⟩
theorem ob_87 : zOb 87 2 := ⟨by decide, _, fun _ _ => rfl⟩
theorem fr_87_0 : zFr 87 2 0 88 := ⟨by decide, _, fun _ _ => rfl, fun _ => rfl⟩
theorem ar_88 : zAr 88 2048 := ⟨by decide, by decide, fun _ _ => rfl⟩
theorem ob_89 : zOb 89 9 := ⟨by decide, _, fun _ _ => rfl⟩
theorem fr_89_0 : zFr 89 9 0 90 := ⟨by decide, _, fun _ _ => rfl, fun _ => rfl⟩
theorem fr_89_1 : zFr 89 9 1 91 := ⟨by decide, _, fun _ _ => rfl, fun _ => rfl⟩
theorem fr_89_2 : zFr 89 9 2 92 := ⟨by decide, _, fun _ _ => rfl, fun _ => rfl⟩
theorem fr_89_3 : zFr 89 9 3 93 := ⟨by decide, _, fun _ _ => rfl, fun _ => rfl⟩
theorem fr_89_4 : zFr 89 9 4 94 := ⟨by decide, _, fun _ _ => rfl, fun _ => rfl⟩
theorem fr_89_5 : zFr 89 9 5 95 := ⟨by decide, _, fun _ _ => rfl, fun _ => rfl⟩
theorem fi_89_6 : zFi 89 9 6 := ⟨by decide, _, fun _ _ => rfl, fun _ => rfl, fun i x => by simp [upd]⟩
theorem ar_90 : zAr 90 56 := ⟨by decide, by decide, fun _ _ => rfl⟩
theorem ar_91 : zAr 91 56 := ⟨by decide, by decide, fun _ _ => rfl⟩
theorem ar_92 : zAr 92 56 := ⟨by decide, by decide, fun _ _ => rfl⟩
theorem ar_93 : zAr 93 57 := ⟨by decide, by decide, fun _ _ => rfl⟩
theorem ar_94 : zAr 94 32 := ⟨by decide, by decide, fun _ _ => rfl⟩
theorem ar_95 : zAr 95 448 := ⟨by decide, by decide, fun _ _ => rfl⟩
theorem ob_96 : zOb 96 3 := ⟨by decide, _, fun _ _ => rfl⟩
theorem fr_96_0 : zFr 96 3 0 97 := ⟨by decide, _, fun _ _ => rfl, fun _ => rfl⟩
theorem ar_97 : zAr 97 8 := ⟨by decide, by decide, fun _ _ => rfl⟩
theorem ob_98 : zOb 98 11 := ⟨by decide, _, fun _ _ => rfl⟩
theorem fr_98_0 : zFr 98 11 0 99 := ⟨by decide, _, fun _ _ => rfl, fun _ => rfl⟩
theorem fr_98_1 : zFr 98 11 1 100 := ⟨by decide, _, fun _ _ => rfl, fun _ => rfl⟩
theorem fr_98_2 : zFr 98 11 2 101 := ⟨by decide, _, fun _ _ => rfl, fun _ => rfl⟩
theorem fi_98_3 : zFi 98 11 3 := ⟨by decide, _, fun _ _ => rfl, fun _ => rfl, fun i x => by simp [upd]⟩
theorem fr_98_4 : zFr 98 11 4 102 := ⟨by decide, _, fun _ _ => rfl, fun _ => rfl⟩
theorem fi_98_5 : zFi 98 11 5 := ⟨by decide, _, fun _ _ => rfl, fun _ => rfl, fun i x => by simp [upd]⟩
theorem fi_98_6 : zFi 98 11 6 := ⟨by decide, _, fun _ _ => rfl, fun _ => rfl, fun i x => by simp [upd]⟩
theorem fi_98_7 : zFi 98 11 7 := ⟨by decide, _, fun _ _ => rfl, fun _ => rfl, fun i x => by simp [upd]⟩
theorem fi_98_8 : zFi 98 11 8 := ⟨by decide, _, fun _ _ => rfl, fun _ => rfl, fun i x => by simp [upd]⟩
theorem fi_98_9 : zFi 98 11 9 := ⟨by decide, _, fun _ _ => rfl, fun _ => rfl, fun i x => by simp [upd]⟩
theorem fi_98_10 : zFi 98 11 10 := ⟨by decide, _, fun _ _ => rfl, fun _ => rfl, fun i x => by simp [upd]⟩
theorem fi_98_11 : zFi 98 11 11 := ⟨by decide, _, fun _ _ => rfl, fun _ => rfl, fun i x => by simp [upd]⟩
theorem fi_98_12 : zFi 98 11 12 := ⟨by decide, _, fun _ _ => rfl, fun _ => rfl, fun i x => by simp [upd]⟩
theorem fr_98_13 : zFr 98 11 13 103 := ⟨by decide, _, fun _ _ => rfl, fun _ => rfl⟩
theorem fr_98_14 : zFr 98 11 14 104 := ⟨by decide, _, fun _ _ => rfl, fun _ => rfl⟩
theorem fr_98_15 : zFr 98 11 15 105 := ⟨by decide, _, fun _ _ => rfl, fun _ => rfl⟩
theorem fi_98_16 : zFi 98 11 16 := ⟨by decide, _, fun _ _ => rfl, fun _ => rfl, fun i x => by simp [upd]⟩
theorem fr_98_17 : zFr 98 11 17 106 := ⟨by decide, _, fun _ _ => rfl, fun _ => rfl⟩
theorem fr_98_18 : zFr 98 11 18 107 := ⟨by decide, _, fun _ _ => rfl, fun _ => rfl⟩
theorem fr_98_19 : zFr 98 11 19 108 := ⟨by decide, _, fun _ _ => rfl, fun _ => rfl⟩
theorem fr_98_20 : zFr 98 11 20 109 := ⟨by decide, _, fun _ _ => rfl, fun _ => rfl⟩
theorem fi_98_21 : zFi 98 11 21 := ⟨by decide, _, fun _ _ => rfl, fun _ => rfl, fun i x => by simp [upd]⟩
theorem fr_98_22 : zFr 98 11 22 110 := ⟨by decide, _, fun _ _ => rfl, fun _ => rfl⟩
theorem fi_98_23 : zFi 98 11 23 := ⟨by decide, _, fun _ _ => rfl, fun _ => rfl, fun i x => by simp [upd]⟩
theorem fr_98_24 : zFr 98 11 24 111 := ⟨by decide, _, fun _ _ => rfl, fun _ => rfl⟩
theorem fr_98_25 : zFr 98 11 25 112 := ⟨by decide, _, fun _ _ => rfl, fun _ => rfl⟩
theorem fr_98_26 : zFr 98 11 26 113 := ⟨by decide, _, fun _ _ => rfl, fun _ => rfl⟩
theorem fr_98_27 : zFr 98 11 27 114 := ⟨by decide, _, fun _ _ => rfl, fun _ => rfl⟩
theorem fi_98_28 : zFi 98 11 28 := ⟨by decide, _, fun _ _ => rfl, fun _ => rfl, fun i x => by simp [upd]⟩
theorem ar_99 : zAr 99 174 := ⟨by decide, by decide, fun _ _ => rfl⟩
theorem ar_100 : zAr 100 174 := ⟨by decide, by decide, fun _ _ => rfl⟩
theorem ar_101 : zAr 101 1740 := ⟨by decide, by decide, fun _ _ => rfl⟩
theorem ar_102 : zAr 102 400 := ⟨by decide, by decide, fun _ _ => rfl⟩
theorem ar_103 : zAr 103 8 := ⟨by decide, by decide, fun _ _ => rfl⟩
theorem ar_104 : zAr 104 256 := ⟨by decide, by decide, fun _ _ => rfl⟩
theorem ar_105 : zAr 105 256 := ⟨by decide, by decide, fun _ _ => rfl⟩
theorem ar_106 : zAr 106 8 := ⟨by decide, by decide, fun _ _ => rfl⟩
theorem ar_107 : zAr 107 2048 := ⟨by decide, by decide, fun _ _ => rfl⟩
theorem ar_108 : zAr 108 56 := ⟨by decide, by decide, fun _ _ => rfl⟩
theorem ar_109 : zAr 109 56 := ⟨by decide, by decide, fun _ _ => rfl⟩
theorem ar_110 : zAr 110 32 := ⟨by decide, by decide, fun _ _ => rfl⟩
theorem ar_111 : zAr 111 56 := ⟨by decide, by decide, fun _ _ => rfl⟩
theorem ar_112 : zAr 112 8 := ⟨by decide, by decide, fun _ _ => rfl⟩
theorem ar_113 : zAr 113 8 := ⟨by decide, by decide, fun _ _ => rfl⟩
theorem ar_114 : zAr 114 400 := ⟨by decide, by decide, fun _ _ => rfl⟩
