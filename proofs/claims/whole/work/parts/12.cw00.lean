theorem kk_0_0 : 0 < 5 ∧ 0 < (KT 0).length := by decide +kernel
theorem kk_0_1 : 1 < 5 ∧ 1 < (KT 0).length := by decide +kernel
theorem kk_0_2 : 2 < 5 ∧ 2 < (KT 0).length := by decide +kernel
theorem pf_0_2 : (TX0 2).2.2.2 = false ∧ tyX0 2 = .int ∧ (KT 0).getD 2 0 = 0 := ⟨rfl, rfl, rfl⟩
theorem kk_0_3 : 3 < 5 ∧ 3 < (KT 0).length := by decide +kernel
theorem pf_0_3 : (TX0 3).2.2.2 = false ∧ tyX0 3 = .int ∧ (KT 0).getD 3 0 = 0 := ⟨rfl, rfl, rfl⟩
theorem kk_0_4 : 4 < 5 ∧ 4 < (KT 0).length := by decide +kernel
theorem pf_0_4 : (TX0 4).2.2.2 = false ∧ tyX0 4 = .int ∧ (KT 0).getD 4 0 = 0 := ⟨rfl, rfl, rfl⟩
theorem kk_1_0 : 0 < 5 ∧ 0 < (KT 1).length := by decide +kernel
theorem kk_1_1 : 1 < 5 ∧ 1 < (KT 1).length := by decide +kernel
theorem kk_1_2 : 2 < 5 ∧ 2 < (KT 1).length := by decide +kernel
theorem kk_1_3 : 3 < 5 ∧ 3 < (KT 1).length := by decide +kernel
theorem kk_1_4 : 4 < 5 ∧ 4 < (KT 1).length := by decide +kernel
theorem pf_1_4 : (TX1 4).2.2.2 = false ∧ tyX1 4 = .int ∧ (KT 1).getD 4 0 = 0 := ⟨rfl, rfl, rfl⟩
theorem kk_2_0 : 0 < 4 ∧ 0 < (KT 2).length := by decide +kernel
theorem kk_2_1 : 1 < 4 ∧ 1 < (KT 2).length := by decide +kernel
theorem kk_2_2 : 2 < 4 ∧ 2 < (KT 2).length := by decide +kernel
theorem kk_2_3 : 3 < 4 ∧ 3 < (KT 2).length := by decide +kernel
theorem kk_3_0 : 0 < 8 ∧ 0 < (KT 3).length := by decide +kernel
theorem kk_3_1 : 1 < 8 ∧ 1 < (KT 3).length := by decide +kernel
theorem kk_3_2 : 2 < 8 ∧ 2 < (KT 3).length := by decide +kernel
theorem kk_3_3 : 3 < 8 ∧ 3 < (KT 3).length := by decide +kernel
theorem kk_3_4 : 4 < 8 ∧ 4 < (KT 3).length := by decide +kernel
theorem kk_3_5 : 5 < 8 ∧ 5 < (KT 3).length := by decide +kernel
theorem kk_3_6 : 6 < 8 ∧ 6 < (KT 3).length := by decide +kernel
theorem pf_3_6 : (TX3 6).2.2.2 = false ∧ tyX3 6 = .int ∧ (KT 3).getD 6 0 = 0 := ⟨rfl, rfl, rfl⟩
theorem kk_3_7 : 7 < 8 ∧ 7 < (KT 3).length := by decide +kernel
theorem pf_3_7 : (TX3 7).2.2.2 = false ∧ tyX3 7 = .int ∧ (KT 3).getD 7 0 = 0 := ⟨rfl, rfl, rfl⟩
theorem kk_4_0 : 0 < 11 ∧ 0 < (KT 4).length := by decide +kernel
theorem kk_4_1 : 1 < 11 ∧ 1 < (KT 4).length := by decide +kernel
theorem kk_4_2 : 2 < 11 ∧ 2 < (KT 4).length := by decide +kernel
theorem kk_4_3 : 3 < 11 ∧ 3 < (KT 4).length := by decide +kernel
theorem kk_4_4 : 4 < 11 ∧ 4 < (KT 4).length := by decide +kernel
theorem kk_4_5 : 5 < 11 ∧ 5 < (KT 4).length := by decide +kernel
theorem kk_4_6 : 6 < 11 ∧ 6 < (KT 4).length := by decide +kernel
theorem kk_4_7 : 7 < 11 ∧ 7 < (KT 4).length := by decide +kernel
theorem pf_4_7 : (TX4 7).2.2.2 = false ∧ tyX4 7 = .int ∧ (KT 4).getD 7 0 = 0 := ⟨rfl, rfl, rfl⟩
theorem kk_4_8 : 8 < 11 ∧ 8 < (KT 4).length := by decide +kernel
theorem pf_4_8 : (TX4 8).2.2.2 = false ∧ tyX4 8 = .int ∧ (KT 4).getD 8 0 = 0 := ⟨rfl, rfl, rfl⟩
theorem kk_4_9 : 9 < 11 ∧ 9 < (KT 4).length := by decide +kernel
theorem pf_4_9 : (TX4 9).2.2.2 = false ∧ tyX4 9 = .int ∧ (KT 4).getD 9 0 = 0 := ⟨rfl, rfl, rfl⟩
theorem kk_4_10 : 10 < 11 ∧ 10 < (KT 4).length := by decide +kernel
theorem pf_4_10 : (TX4 10).2.2.2 = false ∧ tyX4 10 = .int ∧ (KT 4).getD 10 0 = 0 := ⟨rfl, rfl, rfl⟩
theorem kk_5_0 : 0 < 5 ∧ 0 < (KT 5).length := by decide +kernel
theorem kk_5_1 : 1 < 5 ∧ 1 < (KT 5).length := by decide +kernel
theorem pf_5_1 : (TX5 1).2.2.2 = false ∧ tyX5 1 = .int ∧ (KT 5).getD 1 0 = 0 := ⟨rfl, rfl, rfl⟩
theorem kk_5_2 : 2 < 5 ∧ 2 < (KT 5).length := by decide +kernel
theorem pf_5_2 : (TX5 2).2.2.2 = false ∧ tyX5 2 = .int ∧ (KT 5).getD 2 0 = 0 := ⟨rfl, rfl, rfl⟩
theorem kk_5_3 : 3 < 5 ∧ 3 < (KT 5).length := by decide +kernel
theorem pf_5_3 : (TX5 3).2.2.2 = false ∧ tyX5 3 = .int ∧ (KT 5).getD 3 0 = 0 := ⟨rfl, rfl, rfl⟩
theorem kk_5_4 : 4 < 5 ∧ 4 < (KT 5).length := by decide +kernel
theorem kk_6_0 : 0 < 4 ∧ 0 < (KT 6).length := by decide +kernel
theorem kk_6_1 : 1 < 4 ∧ 1 < (KT 6).length := by decide +kernel
theorem kk_6_2 : 2 < 4 ∧ 2 < (KT 6).length := by decide +kernel
theorem kk_6_3 : 3 < 4 ∧ 3 < (KT 6).length := by decide +kernel
theorem kk_7_0 : 0 < 10 ∧ 0 < (KT 7).length := by decide +kernel
theorem kk_7_1 : 1 < 10 ∧ 1 < (KT 7).length := by decide +kernel
theorem kk_7_2 : 2 < 10 ∧ 2 < (KT 7).length := by decide +kernel
theorem kk_7_3 : 3 < 10 ∧ 3 < (KT 7).length := by decide +kernel
theorem kk_7_4 : 4 < 10 ∧ 4 < (KT 7).length := by decide +kernel
theorem kk_7_5 : 5 < 10 ∧ 5 < (KT 7).length := by decide +kernel
theorem kk_7_6 : 6 < 10 ∧ 6 < (KT 7).length := by decide +kernel
theorem kk_7_7 : 7 < 10 ∧ 7 < (KT 7).length := by decide +kernel
theorem kk_7_8 : 8 < 10 ∧ 8 < (KT 7).length := by decide +kernel
theorem pf_7_8 : (TX7 8).2.2.2 = false ∧ tyX7 8 = .int ∧ (KT 7).getD 8 0 = 0 := ⟨rfl, rfl, rfl⟩
theorem kk_7_9 : 9 < 10 ∧ 9 < (KT 7).length := by decide +kernel
theorem pf_7_9 : (TX7 9).2.2.2 = false ∧ tyX7 9 = .int ∧ (KT 7).getD 9 0 = 0 := ⟨rfl, rfl, rfl⟩
theorem kk_8_0 : 0 < 7 ∧ 0 < (KT 8).length := by decide +kernel
theorem kk_8_1 : 1 < 7 ∧ 1 < (KT 8).length := by decide +kernel
theorem kk_8_2 : 2 < 7 ∧ 2 < (KT 8).length := by decide +kernel
theorem kk_8_3 : 3 < 7 ∧ 3 < (KT 8).length := by decide +kernel
theorem kk_8_4 : 4 < 7 ∧ 4 < (KT 8).length := by decide +kernel
theorem kk_8_5 : 5 < 7 ∧ 5 < (KT 8).length := by decide +kernel
theorem pf_8_5 : (TX8 5).2.2.2 = false ∧ tyX8 5 = .int ∧ (KT 8).getD 5 0 = 0 := ⟨rfl, rfl, rfl⟩
theorem kk_8_6 : 6 < 7 ∧ 6 < (KT 8).length := by decide +kernel
theorem pf_8_6 : (TX8 6).2.2.2 = false ∧ tyX8 6 = .int ∧ (KT 8).getD 6 0 = 0 := ⟨rfl, rfl, rfl⟩
theorem kk_9_0 : 0 < 7 ∧ 0 < (KT 9).length := by decide +kernel
theorem kk_9_1 : 1 < 7 ∧ 1 < (KT 9).length := by decide +kernel
theorem kk_9_2 : 2 < 7 ∧ 2 < (KT 9).length := by decide +kernel
theorem kk_9_3 : 3 < 7 ∧ 3 < (KT 9).length := by decide +kernel
theorem kk_9_4 : 4 < 7 ∧ 4 < (KT 9).length := by decide +kernel
theorem kk_9_5 : 5 < 7 ∧ 5 < (KT 9).length := by decide +kernel
theorem kk_9_6 : 6 < 7 ∧ 6 < (KT 9).length := by decide +kernel
theorem pf_9_6 : (TX9 6).2.2.2 = false ∧ tyX9 6 = .int ∧ (KT 9).getD 6 0 = 0 := ⟨rfl, rfl, rfl⟩
theorem kk_10_0 : 0 < 9 ∧ 0 < (KT 10).length := by decide +kernel
theorem kk_10_1 : 1 < 9 ∧ 1 < (KT 10).length := by decide +kernel
theorem kk_10_2 : 2 < 9 ∧ 2 < (KT 10).length := by decide +kernel
theorem kk_10_3 : 3 < 9 ∧ 3 < (KT 10).length := by decide +kernel
theorem kk_10_4 : 4 < 9 ∧ 4 < (KT 10).length := by decide +kernel
theorem kk_10_5 : 5 < 9 ∧ 5 < (KT 10).length := by decide +kernel
theorem kk_10_6 : 6 < 9 ∧ 6 < (KT 10).length := by decide +kernel
theorem kk_10_7 : 7 < 9 ∧ 7 < (KT 10).length := by decide +kernel
theorem kk_10_8 : 8 < 9 ∧ 8 < (KT 10).length := by decide +kernel
theorem am_19 {Z : Zt} : 19 ∈ LC Z := LC_f (by decide)
theorem am_39 {Z : Zt} : 39 ∈ LC Z := LC_f (by decide)
theorem am_59 {Z : Zt} : 59 ∈ LC Z := LC_f (by decide)
theorem am_79 {Z : Zt} : 79 ∈ LC Z := LC_f (by decide)
theorem am_99 {Z : Zt} : 99 ∈ LC Z := LC_f (by decide)
theorem am_319 {Z : Zt} : 319 ∈ LC Z := LC_f (by decide)
theorem am_119 {Z : Zt} : 119 ∈ LC Z := LC_f (by decide)
theorem am_139 {Z : Zt} : 139 ∈ LC Z := LC_f (by decide)
theorem am_159 {Z : Zt} : 159 ∈ LC Z := LC_f (by decide)
theorem am_199 {Z : Zt} : 199 ∈ LC Z := LC_f (by decide)
theorem am_219 {Z : Zt} : 219 ∈ LC Z := LC_f (by decide)
theorem am_0 {Z : Zt} : 0 ∈ LC Z := LC_f (by decide)
theorem am_1 {Z : Zt} : 1 ∈ LC Z := LC_f (by decide)
theorem am_20 {Z : Zt} : 20 ∈ LC Z := LC_f (by decide)
theorem am_21 {Z : Zt} : 21 ∈ LC Z := LC_f (by decide)
theorem am_22 {Z : Zt} : 22 ∈ LC Z := LC_f (by decide)
theorem am_23 {Z : Zt} : 23 ∈ LC Z := LC_f (by decide)
theorem am_62 {Z : Zt} : 62 ∈ LC Z := LC_f (by decide)
theorem am_63 {Z : Zt} : 63 ∈ LC Z := LC_f (by decide)
theorem am_64 {Z : Zt} : 64 ∈ LC Z := LC_f (by decide)
theorem am_65 {Z : Zt} : 65 ∈ LC Z := LC_f (by decide)
theorem am_82 {Z : Zt} : 82 ∈ LC Z := LC_f (by decide)
theorem am_83 {Z : Zt} : 83 ∈ LC Z := LC_f (by decide)
theorem am_84 {Z : Zt} : 84 ∈ LC Z := LC_f (by decide)
theorem am_85 {Z : Zt} : 85 ∈ LC Z := LC_f (by decide)
theorem am_302 {Z : Zt} : 302 ∈ LC Z := LC_f (by decide)
theorem am_303 {Z : Zt} : 303 ∈ LC Z := LC_f (by decide)
theorem am_304 {Z : Zt} : 304 ∈ LC Z := LC_f (by decide)
theorem am_305 {Z : Zt} : 305 ∈ LC Z := LC_f (by decide)
theorem am_100 {Z : Zt} : 100 ∈ LC Z := LC_f (by decide)
theorem am_120 {Z : Zt} : 120 ∈ LC Z := LC_f (by decide)
theorem am_121 {Z : Zt} : 121 ∈ LC Z := LC_f (by decide)
theorem am_122 {Z : Zt} : 122 ∈ LC Z := LC_f (by decide)
theorem am_123 {Z : Zt} : 123 ∈ LC Z := LC_f (by decide)
theorem am_140 {Z : Zt} : 140 ∈ LC Z := LC_f (by decide)
theorem am_141 {Z : Zt} : 141 ∈ LC Z := LC_f (by decide)
theorem am_142 {Z : Zt} : 142 ∈ LC Z := LC_f (by decide)
theorem am_143 {Z : Zt} : 143 ∈ LC Z := LC_f (by decide)
theorem am_144 {Z : Zt} : 144 ∈ LC Z := LC_f (by decide)
theorem am_145 {Z : Zt} : 145 ∈ LC Z := LC_f (by decide)
theorem am_146 {Z : Zt} : 146 ∈ LC Z := LC_f (by decide)
theorem am_147 {Z : Zt} : 147 ∈ LC Z := LC_f (by decide)
theorem am_183 {Z : Zt} : 183 ∈ LC Z := LC_f (by decide)
theorem am_184 {Z : Zt} : 184 ∈ LC Z := LC_f (by decide)
theorem am_185 {Z : Zt} : 185 ∈ LC Z := LC_f (by decide)
theorem am_86 {Z : Zt} : 86 ∈ LC Z := LC_f (by decide)
theorem am_306 {Z : Zt} : 306 ∈ LC Z := LC_f (by decide)
theorem am_1060 {Z : Zt} : 1060 ∈ LC Z := LC_f (by decide)
theorem am_1061 {Z : Zt} : 1061 ∈ LC Z := LC_f (by decide)
theorem am_1062 {Z : Zt} : 1062 ∈ LC Z := LC_f (by decide)
theorem am_1063 {Z : Zt} : 1063 ∈ LC Z := LC_f (by decide)
theorem am_1064 {Z : Zt} : 1064 ∈ LC Z := LC_f (by decide)
theorem am_1079 {Z : Zt} : 1079 ∈ LC Z := LC_f (by decide)
theorem ak_0 : ¬ 0 % 20 = 19 ∧ ¬ 0 = 123 ∧ ¬ 0 = 143 := by decide
theorem ak_1 : ¬ 1 % 20 = 19 ∧ ¬ 1 = 123 ∧ ¬ 1 = 143 := by decide
theorem ak_20 : ¬ 20 % 20 = 19 ∧ ¬ 20 = 123 ∧ ¬ 20 = 143 := by decide
theorem ak_21 : ¬ 21 % 20 = 19 ∧ ¬ 21 = 123 ∧ ¬ 21 = 143 := by decide
theorem ak_22 : ¬ 22 % 20 = 19 ∧ ¬ 22 = 123 ∧ ¬ 22 = 143 := by decide
theorem ak_23 : ¬ 23 % 20 = 19 ∧ ¬ 23 = 123 ∧ ¬ 23 = 143 := by decide
theorem ak_62 : ¬ 62 % 20 = 19 ∧ ¬ 62 = 123 ∧ ¬ 62 = 143 := by decide
theorem ak_63 : ¬ 63 % 20 = 19 ∧ ¬ 63 = 123 ∧ ¬ 63 = 143 := by decide
theorem ak_64 : ¬ 64 % 20 = 19 ∧ ¬ 64 = 123 ∧ ¬ 64 = 143 := by decide
theorem ak_65 : ¬ 65 % 20 = 19 ∧ ¬ 65 = 123 ∧ ¬ 65 = 143 := by decide
theorem ak_82 : ¬ 82 % 20 = 19 ∧ ¬ 82 = 123 ∧ ¬ 82 = 143 := by decide
theorem ak_83 : ¬ 83 % 20 = 19 ∧ ¬ 83 = 123 ∧ ¬ 83 = 143 := by decide
theorem ak_84 : ¬ 84 % 20 = 19 ∧ ¬ 84 = 123 ∧ ¬ 84 = 143 := by decide
theorem ak_85 : ¬ 85 % 20 = 19 ∧ ¬ 85 = 123 ∧ ¬ 85 = 143 := by decide
theorem ak_302 : ¬ 302 % 20 = 19 ∧ ¬ 302 = 123 ∧ ¬ 302 = 143 := by decide
theorem ak_303 : ¬ 303 % 20 = 19 ∧ ¬ 303 = 123 ∧ ¬ 303 = 143 := by decide
theorem ak_304 : ¬ 304 % 20 = 19 ∧ ¬ 304 = 123 ∧ ¬ 304 = 143 := by decide
theorem ak_305 : ¬ 305 % 20 = 19 ∧ ¬ 305 = 123 ∧ ¬ 305 = 143 := by decide
theorem ak_100 : ¬ 100 % 20 = 19 ∧ ¬ 100 = 123 ∧ ¬ 100 = 143 := by decide
theorem ak_120 : ¬ 120 % 20 = 19 ∧ ¬ 120 = 123 ∧ ¬ 120 = 143 := by decide
theorem ak_121 : ¬ 121 % 20 = 19 ∧ ¬ 121 = 123 ∧ ¬ 121 = 143 := by decide
theorem ak_122 : ¬ 122 % 20 = 19 ∧ ¬ 122 = 123 ∧ ¬ 122 = 143 := by decide
theorem ak_140 : ¬ 140 % 20 = 19 ∧ ¬ 140 = 123 ∧ ¬ 140 = 143 := by decide
theorem ak_141 : ¬ 141 % 20 = 19 ∧ ¬ 141 = 123 ∧ ¬ 141 = 143 := by decide
theorem ak_142 : ¬ 142 % 20 = 19 ∧ ¬ 142 = 123 ∧ ¬ 142 = 143 := by decide
theorem ak_144 : ¬ 144 % 20 = 19 ∧ ¬ 144 = 123 ∧ ¬ 144 = 143 := by decide
theorem ak_145 : ¬ 145 % 20 = 19 ∧ ¬ 145 = 123 ∧ ¬ 145 = 143 := by decide
theorem ak_146 : ¬ 146 % 20 = 19 ∧ ¬ 146 = 123 ∧ ¬ 146 = 143 := by decide
theorem ak_147 : ¬ 147 % 20 = 19 ∧ ¬ 147 = 123 ∧ ¬ 147 = 143 := by decide
theorem ak_183 : ¬ 183 % 20 = 19 ∧ ¬ 183 = 123 ∧ ¬ 183 = 143 := by decide
theorem ak_184 : ¬ 184 % 20 = 19 ∧ ¬ 184 = 123 ∧ ¬ 184 = 143 := by decide
theorem ak_185 : ¬ 185 % 20 = 19 ∧ ¬ 185 = 123 ∧ ¬ 185 = 143 := by decide
theorem ak_86 : ¬ 86 % 20 = 19 ∧ ¬ 86 = 123 ∧ ¬ 86 = 143 := by decide
theorem ak_306 : ¬ 306 % 20 = 19 ∧ ¬ 306 = 123 ∧ ¬ 306 = 143 := by decide
theorem ak_1000 : ¬ 1000 % 20 = 19 ∧ ¬ 1000 = 123 ∧ ¬ 1000 = 143 := by decide
theorem ak_1001 : ¬ 1001 % 20 = 19 ∧ ¬ 1001 = 123 ∧ ¬ 1001 = 143 := by decide
theorem ak_1002 : ¬ 1002 % 20 = 19 ∧ ¬ 1002 = 123 ∧ ¬ 1002 = 143 := by decide
theorem ak_1003 : ¬ 1003 % 20 = 19 ∧ ¬ 1003 = 123 ∧ ¬ 1003 = 143 := by decide
theorem ak_1004 : ¬ 1004 % 20 = 19 ∧ ¬ 1004 = 123 ∧ ¬ 1004 = 143 := by decide
theorem ak_1020 : ¬ 1020 % 20 = 19 ∧ ¬ 1020 = 123 ∧ ¬ 1020 = 143 := by decide
theorem ak_1021 : ¬ 1021 % 20 = 19 ∧ ¬ 1021 = 123 ∧ ¬ 1021 = 143 := by decide
theorem ak_1022 : ¬ 1022 % 20 = 19 ∧ ¬ 1022 = 123 ∧ ¬ 1022 = 143 := by decide
theorem ak_1023 : ¬ 1023 % 20 = 19 ∧ ¬ 1023 = 123 ∧ ¬ 1023 = 143 := by decide
theorem ak_1024 : ¬ 1024 % 20 = 19 ∧ ¬ 1024 = 123 ∧ ¬ 1024 = 143 := by decide
theorem ak_1040 : ¬ 1040 % 20 = 19 ∧ ¬ 1040 = 123 ∧ ¬ 1040 = 143 := by decide
theorem ak_1041 : ¬ 1041 % 20 = 19 ∧ ¬ 1041 = 123 ∧ ¬ 1041 = 143 := by decide
theorem ak_1042 : ¬ 1042 % 20 = 19 ∧ ¬ 1042 = 123 ∧ ¬ 1042 = 143 := by decide
theorem ak_1043 : ¬ 1043 % 20 = 19 ∧ ¬ 1043 = 123 ∧ ¬ 1043 = 143 := by decide
theorem ak_1044 : ¬ 1044 % 20 = 19 ∧ ¬ 1044 = 123 ∧ ¬ 1044 = 143 := by decide
theorem ak_1060 : ¬ 1060 % 20 = 19 ∧ ¬ 1060 = 123 ∧ ¬ 1060 = 143 := by decide
theorem ak_1061 : ¬ 1061 % 20 = 19 ∧ ¬ 1061 = 123 ∧ ¬ 1061 = 143 := by decide
theorem ak_1062 : ¬ 1062 % 20 = 19 ∧ ¬ 1062 = 123 ∧ ¬ 1062 = 143 := by decide
theorem ak_1063 : ¬ 1063 % 20 = 19 ∧ ¬ 1063 = 123 ∧ ¬ 1063 = 143 := by decide
theorem ak_1064 : ¬ 1064 % 20 = 19 ∧ ¬ 1064 = 123 ∧ ¬ 1064 = 143 := by decide
set_option maxRecDepth 20000 in
theorem kw_X0_size {X : GX} {θ : TH} {ad Y : Nat → Nat} {Z : Zt} {S : St}  (C : CX (mE X θ (wdC θ ad Y Z S) 1) RX0 cX0_size (some .int) 0 0 0)  : Dk (mE X θ (wdC θ ad Y Z S) 1) (mT X θ (wdC θ ad Y Z S) 1 (PI (wdC θ ad Y Z S))) 0 0 (wdC θ ad Y Z S) [(0, .ref (ad 19))] [] 0 (f_X0_size Z S) := by
  show Dk _ _ _ _ _ _ _ _ (some (S.1 2))
  refine k_aload_n (q := 0) C dX0_size_0 rfl rfl ?_
  refine c_get (b := 0) (ci := 0) (kf := 2) (N := 5) (v := .int (S.1 2)) C rfl ⟨rfl, rfl⟩ am_19 rfl lay_0 kk_0_2 fl_0_18 rfl dX0_size_1 ?_
  exact k_iret C rfl ⟨rfl, rfl⟩ dX0_size_4
theorem ct_X0_size {l : Launch} {θ : TH} {ad Y : Nat → Nat} {S : St} {Z : Zt}   : ∀ r, f_X0_size Z S = some r → Ct l θ yX0_size cX0_size 1 (some .int) 0 0 0 [.ref (ad 19)] (wdC θ ad Y Z S) (PI (wdC θ ad Y Z S) r) :=
  fun r hr => Ct.of (by decide +kernel) (Nat.le_of_ble_eq_true rfl) (fun X _ C _ => kw_X0_size C  r hr)
set_option maxRecDepth 20000 in
theorem kw_X0_ran {X : GX} {θ : TH} {ad Y : Nat → Nat} {Z : Zt} {S : St}  (C : CX (mE X θ (wdC θ ad Y Z S) 1) RX0 cX0_ran (some .int) 0 0 0)  : Dk (mE X θ (wdC θ ad Y Z S) 1) (mT X θ (wdC θ ad Y Z S) 1 (PI (wdC θ ad Y Z S))) 0 0 (wdC θ ad Y Z S) [(0, .ref (ad 19))] [] 0 (f_X0_ran Z S) := by
  show Dk _ _ _ _ _ _ _ _ (some (S.1 3))
  refine k_aload_n (q := 0) C dX0_ran_0 rfl rfl ?_
  refine c_get (b := 0) (ci := 0) (kf := 3) (N := 5) (v := .int (S.1 3)) C rfl ⟨rfl, rfl⟩ am_19 rfl lay_0 kk_0_3 fl_0_22 rfl dX0_ran_1 ?_
  exact k_iret C rfl ⟨rfl, rfl⟩ dX0_ran_4
theorem ct_X0_ran {l : Launch} {θ : TH} {ad Y : Nat → Nat} {S : St} {Z : Zt}   : ∀ r, f_X0_ran Z S = some r → Ct l θ yX0_ran cX0_ran 1 (some .int) 0 0 0 [.ref (ad 19)] (wdC θ ad Y Z S) (PI (wdC θ ad Y Z S) r) :=
  fun r hr => Ct.of (by decide +kernel) (Nat.le_of_ble_eq_true rfl) (fun X _ C _ => kw_X0_ran C  r hr)
set_option maxRecDepth 20000 in
theorem kw_X0_has {X : GX} {θ : TH} {ad Y : Nat → Nat} {Z : Zt} {S : St} {a1 : Int32} (C : CX (mE X θ (wdC θ ad Y Z S) 2) RX0 cX0_has (some .boolean) 0 0 0)  : Dk (mE X θ (wdC θ ad Y Z S) 2) (mT X θ (wdC θ ad Y Z S) 2 (PI (wdC θ ad Y Z S))) 0 0 (wdC θ ad Y Z S) [(0, .ref (ad 19)), (1, .int a1)] [] 0 (f_X0_has Z S a1) := by
  show Dk _ _ _ _ _ _ _ _ (if a1 < 0 then some ((0 : Int32)) else if (S.1 2) ≤ a1 then some ((0 : Int32)) else if (50 : Int32) ≤ a1 then some ((0 : Int32)) else some ((1 : Int32)))
  refine k_iload_n (q := 1) C dX0_has_0 rfl rfl ?_
  refine k_if_lt (tgt := 22) C dX0_has_1 (by decide) (fun _ => ?_) (fun _ => ?_)
  · refine k_iconst (v := 0) C dX0_has_22 rfl ?_
    exact k_iret C rfl ⟨rfl, rfl⟩ dX0_has_23
  · refine k_iload_n (q := 1) C dX0_has_4 rfl rfl ?_
    refine k_aload_n (q := 0) C dX0_has_5 rfl rfl ?_
    refine c_get (b := 0) (ci := 0) (kf := 2) (N := 5) (v := .int (S.1 2)) C rfl ⟨rfl, rfl⟩ am_19 rfl lay_0 kk_0_2 fl_0_18 rfl dX0_has_6 ?_
    refine k_icmp_ge (tgt := 22) C dX0_has_9 (by decide) (fun _ => ?_) (fun _ => ?_)
    · refine k_iconst (v := 0) C dX0_has_22 rfl ?_
      exact k_iret C rfl ⟨rfl, rfl⟩ dX0_has_23
    · refine k_iload_n (q := 1) C dX0_has_12 rfl rfl ?_
      refine k_bipush (v := 50) C dX0_has_13 rfl ?_
      refine k_icmp_ge (tgt := 22) C dX0_has_15 (by decide) (fun _ => ?_) (fun _ => ?_)
      · refine k_iconst (v := 0) C dX0_has_22 rfl ?_
        exact k_iret C rfl ⟨rfl, rfl⟩ dX0_has_23
      · refine k_iconst (v := 1) C dX0_has_18 rfl ?_
        refine k_goto (tgt := 23) C dX0_has_19 (by decide) ?_
        exact k_iret C rfl ⟨rfl, rfl⟩ dX0_has_23
theorem ct_X0_has {l : Launch} {θ : TH} {ad Y : Nat → Nat} {S : St} {Z : Zt} {a1 : Int32}  : ∀ r, f_X0_has Z S a1 = some r → Ct l θ yX0_has cX0_has 2 (some .boolean) 0 0 0 [.ref (ad 19), .int a1] (wdC θ ad Y Z S) (PI (wdC θ ad Y Z S) r) :=
  fun r hr => Ct.of (by decide +kernel) (Nat.le_of_ble_eq_true rfl) (fun X _ C _ => kw_X0_has C  r hr)
set_option maxRecDepth 20000 in
theorem kw_X0_add {X : GX} {θ : TH} {ad Y : Nat → Nat} {Z : Zt} {S : St} {a1 : Int32} (C : CX (mE X θ (wdC θ ad Y Z S) 2) RX0 cX0_add (some .int) 0 0 0)  : Dk (mE X θ (wdC θ ad Y Z S) 2) (mT X θ (wdC θ ad Y Z S) 2 (PIS (wdC θ ad Y Z))) 0 0 (wdC θ ad Y Z S) [(0, .ref (ad 19)), (1, .int a1)] [] 0 (f_X0_add Z S a1) := by
  show Dk _ _ _ _ _ _ _ _ (if (S.1 2) < 50 then chk (inr (S.1 2) 50) (some (S.1 2, sf (sa S 0 (S.1 2).toNatClampNeg a1) 2 ((S.1 2) + 1))) else some ((-3 : Int32), S))
  refine k_aload_n (q := 0) C dX0_add_0 rfl rfl ?_
  refine c_get (b := 0) (ci := 0) (kf := 2) (N := 5) (v := .int (S.1 2)) C rfl ⟨rfl, rfl⟩ am_19 rfl lay_0 kk_0_2 fl_0_18 rfl dX0_add_1 ?_
  refine k_bipush (v := 50) C dX0_add_4 rfl ?_
  refine k_icmp_lt (tgt := 12) C dX0_add_6 (by decide) (fun _ => ?_) (fun _ => ?_)
  · refine k_aload_n (q := 0) C dX0_add_12 rfl rfl ?_
    refine c_get (b := 0) (ci := 0) (kf := 0) (N := 5) C rfl ⟨rfl, rfl⟩ am_19 rfl lay_0 kk_0_0 fl_0_9 rfl dX0_add_13 ?_
    refine k_aload_n (q := 0) C dX0_add_16 rfl rfl ?_
    refine c_get (b := 0) (ci := 0) (kf := 2) (N := 5) (v := .int (S.1 2)) C rfl ⟨rfl, rfl⟩ am_19 rfl lay_0 kk_0_2 fl_0_18 rfl dX0_add_17 ?_
    refine k_iload_n (q := 1) C dX0_add_20 rfl rfl ?_
    refine c_iast (i := 0) C rfl am_0 ak_0 rfl dX0_add_21 ?_
    refine k_aload_n (q := 0) C dX0_add_22 rfl rfl ?_
    refine k_dup C dX0_add_23 rfl ?_
    refine c_get (b := 0) (ci := 0) (kf := 2) (N := 5) (v := .int (S.1 2)) C rfl ⟨rfl, rfl⟩ am_19 rfl lay_0 kk_0_2 fl_0_18 rfl dX0_add_24 ?_
    refine k_dup_x1 C dX0_add_27 rfl rfl ?_
    refine k_iconst (v := 1) C dX0_add_28 rfl ?_
    refine k_iadd C dX0_add_29 ?_
    refine c_puti (b := 0) (ci := 0) (kf := 2) (N := 5) C rfl ⟨rfl, rfl⟩ am_19 rfl lay_0 tyX0 tyX0_ok nmX0 kk_0_2 fl_0_18 pf_0_2 dX0_add_30 ?_
    exact k_iret C rfl ⟨rfl, rfl⟩ dX0_add_33
  · refine k_bipush (v := (-3)) C dX0_add_9 rfl ?_
    exact k_iret C rfl ⟨rfl, rfl⟩ dX0_add_11
theorem ct_X0_add {l : Launch} {θ : TH} {ad Y : Nat → Nat} {S : St} {Z : Zt} {a1 : Int32}  : ∀ r, f_X0_add Z S a1 = some r → Ct l θ yX0_add cX0_add 2 (some .int) 0 0 0 [.ref (ad 19), .int a1] (wdC θ ad Y Z S) (PIS (wdC θ ad Y Z) r) :=
  fun r hr => Ct.of (by decide +kernel) (Nat.le_of_ble_eq_true rfl) (fun X _ C _ => kw_X0_add C  r hr)
set_option maxRecDepth 20000 in
theorem kw_X0_kindOf {X : GX} {θ : TH} {ad Y : Nat → Nat} {Z : Zt} {S : St} {a1 : Int32} (C : CX (mE X θ (wdC θ ad Y Z S) 2) RX0 cX0_kindOf (some .int) 1 0 0)  : Dk (mE X θ (wdC θ ad Y Z S) 2) (mT X θ (wdC θ ad Y Z S) 2 (PI (wdC θ ad Y Z S))) 0 0 (wdC θ ad Y Z S) [(0, .ref (ad 19)), (1, .int a1)] [] 0 (f_X0_kindOf Z S a1) := by
  show Dk _ _ _ _ _ _ _ _ ((f_X0_has Z S a1).bind fun r1 => (if r1 = 0 then some ((-2 : Int32)) else chk (inr a1 50) (some (S.2.1 0 (a1).toNatClampNeg))))
  refine k_aload_n (q := 0) C dX0_kindOf_0 rfl rfl ?_
  refine k_iload_n (q := 1) C dX0_kindOf_1 rfl rfl ?_
  refine k_cVI C ct_X0_has my_0_has ml_0_28 rfl ⟨Nat.le_of_ble_eq_true rfl, Nat.le_of_ble_eq_true rfl⟩ (recvC (b := 0) (ci := 0) rfl ⟨rfl, rfl⟩ am_19 rfl rfl) rfl (Nat.le_of_ble_eq_true rfl) dX0_kindOf_2 ⟨Nat.le_refl _, Nat.le_refl _⟩ (fun r1 _ => ?_)
  refine k_if_eq (tgt := 17) C dX0_kindOf_5 (by decide) (fun _ => ?_) (fun _ => ?_)
  · refine k_bipush (v := (-2)) C dX0_kindOf_17 rfl ?_
    exact k_iret C rfl ⟨rfl, rfl⟩ dX0_kindOf_19
  · refine k_aload_n (q := 0) C dX0_kindOf_8 rfl rfl ?_
    refine c_get (b := 0) (ci := 0) (kf := 0) (N := 5) C rfl ⟨rfl, rfl⟩ am_19 rfl lay_0 kk_0_0 fl_0_9 rfl dX0_kindOf_9 ?_
    refine k_iload_n (q := 1) C dX0_kindOf_12 rfl rfl ?_
    refine c_iald (i := 0) (v := S.2.1 0 (a1).toNatClampNeg) C rfl am_0 ak_0 rfl rfl dX0_kindOf_13 ?_
    refine k_goto (tgt := 19) C dX0_kindOf_14 (by decide) ?_
    exact k_iret C rfl ⟨rfl, rfl⟩ dX0_kindOf_19
theorem ct_X0_kindOf {l : Launch} {θ : TH} {ad Y : Nat → Nat} {S : St} {Z : Zt} {a1 : Int32}  : ∀ r, f_X0_kindOf Z S a1 = some r → Ct l θ yX0_kindOf cX0_kindOf 2 (some .int) 1 0 0 [.ref (ad 19), .int a1] (wdC θ ad Y Z S) (PI (wdC θ ad Y Z S) r) :=
  fun r hr => Ct.of (by decide +kernel) (Nat.le_of_ble_eq_true rfl) (fun X _ C _ => kw_X0_kindOf C  r hr)
set_option maxRecDepth 20000 in
theorem kw_X0_kindAbove {X : GX} {θ : TH} {ad Y : Nat → Nat} {Z : Zt} {S : St} {a1 : Int32} (C : CX (mE X θ (wdC θ ad Y Z S) 2) RX0 cX0_kindAbove (some .int) 0 0 0)  : Dk (mE X θ (wdC θ ad Y Z S) 2) (mT X θ (wdC θ ad Y Z S) 2 (PI (wdC θ ad Y Z S))) 0 0 (wdC θ ad Y Z S) [(0, .ref (ad 19)), (1, .int a1)] [] 0 (f_X0_kindAbove Z S a1) := by
  show Dk _ _ _ _ _ _ _ _ (if a1 < 0 then some ((-2 : Int32)) else if (8 : Int32) ≤ a1 then some ((-2 : Int32)) else chk (inr a1 8) (some (abvF (a1).toNatClampNeg)))
  refine k_iload_n (q := 1) C dX0_kindAbove_0 rfl rfl ?_
  refine k_if_lt (tgt := 20) C dX0_kindAbove_1 (by decide) (fun _ => ?_) (fun _ => ?_)
  · refine k_bipush (v := (-2)) C dX0_kindAbove_20 rfl ?_
    exact k_iret C rfl ⟨rfl, rfl⟩ dX0_kindAbove_22
  · refine k_iload_n (q := 1) C dX0_kindAbove_4 rfl rfl ?_
    refine c_abv C fl_0_36 dX0_kindAbove_5 (fun t1 ht2 => ?_)
    refine c_slen (v := 8) C ht2 rfl dX0_kindAbove_8 ?_
    refine k_icmp_ge (tgt := 20) C dX0_kindAbove_9 (by decide) (fun _ => ?_) (fun _ => ?_)
    · refine k_bipush (v := (-2)) C dX0_kindAbove_20 rfl ?_
      exact k_iret C rfl ⟨rfl, rfl⟩ dX0_kindAbove_22
    · refine c_abv C fl_0_36 dX0_kindAbove_12 (fun t3 ht4 => ?_)
      refine k_iload_n (q := 1) C dX0_kindAbove_15 rfl rfl ?_
      refine c_sald C ht4 dX0_kindAbove_16 ?_
      refine k_goto (tgt := 22) C dX0_kindAbove_17 (by decide) ?_
      exact k_iret C rfl ⟨rfl, rfl⟩ dX0_kindAbove_22
theorem ct_X0_kindAbove {l : Launch} {θ : TH} {ad Y : Nat → Nat} {S : St} {Z : Zt} {a1 : Int32}  : ∀ r, f_X0_kindAbove Z S a1 = some r → Ct l θ yX0_kindAbove cX0_kindAbove 2 (some .int) 0 0 0 [.ref (ad 19), .int a1] (wdC θ ad Y Z S) (PI (wdC θ ad Y Z S) r) :=
  fun r hr => Ct.of (by decide +kernel) (Nat.le_of_ble_eq_true rfl) (fun X _ C _ => kw_X0_kindAbove C  r hr)
set_option maxRecDepth 20000 in
theorem kb_X0_isUnder_B33 {X : GX} {θ : TH} {ad Y : Nat → Nat} {F : Nat} {Z : Zt} {S : St} {a2 : Int32} (C : CX (mE X θ (wdC θ ad Y Z S) 5) RX0 cX0_isUnder (some .boolean) 1 0 0)  (x3 : Int32) : Dk (mE X θ (wdC θ ad Y Z S) 5) (mT X θ (wdC θ ad Y Z S) 5 (PI (wdC θ ad Y Z S))) 0 0 (wdC θ ad Y Z S) [(2, .int a2), (3, .int x3)] [] 33 (f_X0_isUnder_B33 F Z S a2 x3) := by
  show Dk _ _ _ _ _ _ _ _ (if x3 < 0 then some ((0 : Int32)) else if x3 = a2 then some ((1 : Int32)) else some ((0 : Int32)))
  refine k_iload_n (q := 1) C dX0_isUnder_33 rfl rfl ?_
  refine k_if_lt (tgt := 46) C dX0_isUnder_34 (by decide) (fun _ => ?_) (fun _ => ?_)
  · refine k_iconst (v := 0) C dX0_isUnder_46 rfl ?_
    exact k_iret C rfl ⟨rfl, rfl⟩ dX0_isUnder_47
  · refine k_iload_n (q := 1) C dX0_isUnder_37 rfl rfl ?_
    refine k_iload_n (q := 0) C dX0_isUnder_38 rfl rfl ?_
    refine k_icmp_ne (tgt := 46) C dX0_isUnder_39 (by decide) (fun _ => ?_) (fun _ => ?_)
    · refine k_iconst (v := 0) C dX0_isUnder_46 rfl ?_
      exact k_iret C rfl ⟨rfl, rfl⟩ dX0_isUnder_47
    · refine k_iconst (v := 1) C dX0_isUnder_42 rfl ?_
      refine k_goto (tgt := 47) C dX0_isUnder_43 (by decide) ?_
      exact k_iret C rfl ⟨rfl, rfl⟩ dX0_isUnder_47
set_option maxRecDepth 20000 in
theorem kb_X0_isUnder_L5 {X : GX} {θ : TH} {ad Y : Nat → Nat} {F : Nat} {Z : Zt} {S : St} {a2 : Int32} (C : CX (mE X θ (wdC θ ad Y Z S) 5) RX0 cX0_isUnder (some .boolean) 1 0 0)  : ∀ (n : Nat) (x3 : Int32) (x4 : Int32), Dk (mE X θ (wdC θ ad Y Z S) 5) (mT X θ (wdC θ ad Y Z S) 5 (PI (wdC θ ad Y Z S))) 0 0 (wdC θ ad Y Z S) [(0, .ref (ad 19)), (2, .int a2), (3, .int x3), (4, .int x4)] [] 5 (f_X0_isUnder_L5 F Z S a2 n x3 x4) := by
  intro n
  induction n with
  | zero => intro x3 x4; exact Dk.none
  | succ n ih =>
    intro x3 x4
    show Dk _ _ _ _ _ _ _ _ (if (8 : Int32) ≤ x4 then f_X0_isUnder_B33 F Z S a2 x3 else if x3 < 0 then f_X0_isUnder_B33 F Z S a2 x3 else if x3 = a2 then f_X0_isUnder_B33 F Z S a2 x3 else (f_X0_kindAbove Z S x3).bind fun r1 => f_X0_isUnder_L5 F Z S a2 n r1 (x4 + 1))
    refine k_iload (q := 3) C dX0_isUnder_5 rfl ?_
    refine k_bipush (v := 8) C dX0_isUnder_7 rfl ?_
    refine k_icmp_ge (tgt := 33) C dX0_isUnder_9 (by decide) (fun _ => ?_) (fun _ => ?_)
    · refine Dk.loc [1, 2] rfl ?_
      exact kb_X0_isUnder_B33 C _
    · refine k_iload_n (q := 2) C dX0_isUnder_12 rfl rfl ?_
      refine k_if_lt (tgt := 33) C dX0_isUnder_13 (by decide) (fun _ => ?_) (fun _ => ?_)
      · refine Dk.loc [1, 2] rfl ?_
        exact kb_X0_isUnder_B33 C _
      · refine k_iload_n (q := 2) C dX0_isUnder_16 rfl rfl ?_
        refine k_iload_n (q := 1) C dX0_isUnder_17 rfl rfl ?_
        refine k_icmp_eq (tgt := 33) C dX0_isUnder_18 (by decide) (fun _ => ?_) (fun _ => ?_)
        · refine Dk.loc [1, 2] rfl ?_
          exact kb_X0_isUnder_B33 C _
        · refine k_aload_n (q := 0) C dX0_isUnder_21 rfl rfl ?_
          refine k_iload_n (q := 2) C dX0_isUnder_22 rfl rfl ?_
          refine k_cVI C ct_X0_kindAbove my_0_kindAbove ml_0_32 rfl ⟨Nat.le_of_ble_eq_true rfl, Nat.le_of_ble_eq_true rfl⟩ (recvC (b := 0) (ci := 0) rfl ⟨rfl, rfl⟩ am_19 rfl rfl) rfl (Nat.le_of_ble_eq_true rfl) dX0_isUnder_23 ⟨Nat.le_refl _, Nat.le_refl _⟩ (fun r1 _ => ?_)
          refine k_istore_n (lv' := [(3, .int r1), (0, .ref (ad 19)), (2, .int a2), (4, .int x4)]) C dX0_isUnder_26 rfl (Nat.le_of_ble_eq_true rfl) rfl ?_
          refine k_iinc (q := 3) (v := x4 + 1) (lv' := [(4, .int (x4 + 1)), (3, .int r1), (0, .ref (ad 19)), (2, .int a2)]) C dX0_isUnder_27 rfl rfl (Nat.le_of_ble_eq_true rfl) rfl ?_
          refine k_goto (tgt := 5) C dX0_isUnder_30 (by decide) ?_
          refine Dk.loc [2, 3, 1, 0] rfl ?_
          exact ih _ _
set_option maxRecDepth 20000 in
theorem kw_X0_isUnder {X : GX} {θ : TH} {ad Y : Nat → Nat} {F : Nat} {Z : Zt} {S : St} {a1 : Int32} {a2 : Int32} (C : CX (mE X θ (wdC θ ad Y Z S) 5) RX0 cX0_isUnder (some .boolean) 1 0 0)  : Dk (mE X θ (wdC θ ad Y Z S) 5) (mT X θ (wdC θ ad Y Z S) 5 (PI (wdC θ ad Y Z S))) 0 0 (wdC θ ad Y Z S) [(0, .ref (ad 19)), (1, .int a1), (2, .int a2)] [] 0 (f_X0_isUnder F Z S a1 a2) := by
  show Dk _ _ _ _ _ _ _ _ (f_X0_isUnder_L5 F Z S a2 F a1 0)
  refine k_iload_n (q := 1) C dX0_isUnder_0 rfl rfl ?_
  refine k_istore_n (lv' := [(3, .int a1), (0, .ref (ad 19)), (1, .int a1), (2, .int a2)]) C dX0_isUnder_1 rfl (Nat.le_of_ble_eq_true rfl) rfl ?_
  refine k_iconst (v := 0) C dX0_isUnder_2 rfl ?_
  refine k_istore (lv' := [(4, .int 0), (3, .int a1), (0, .ref (ad 19)), (1, .int a1), (2, .int a2)]) C dX0_isUnder_3 (Nat.le_of_ble_eq_true rfl) rfl ?_
  refine Dk.loc [2, 4, 1, 0] rfl ?_
  exact kb_X0_isUnder_L5 C _ _ _
theorem ct_X0_isUnder {l : Launch} {θ : TH} {ad Y : Nat → Nat} {S : St} {F : Nat} {Z : Zt} {a1 : Int32} {a2 : Int32}  : ∀ r, f_X0_isUnder F Z S a1 a2 = some r → Ct l θ yX0_isUnder cX0_isUnder 5 (some .boolean) 1 0 0 [.ref (ad 19), .int a1, .int a2] (wdC θ ad Y Z S) (PI (wdC θ ad Y Z S) r) :=
  fun r hr => Ct.of (by decide +kernel) (Nat.le_of_ble_eq_true rfl) (fun X _ C _ => kw_X0_isUnder C  r hr)
set_option maxRecDepth 20000 in
theorem kw_X0_traced {X : GX} {θ : TH} {ad Y : Nat → Nat} {Z : Zt} {S : St} {a1 : Int32} (C : CX (mE X θ (wdC θ ad Y Z S) 2) RX0 cX0_traced (some .int) 0 0 0)  : Dk (mE X θ (wdC θ ad Y Z S) 2) (mT X θ (wdC θ ad Y Z S) 2 (PI (wdC θ ad Y Z S))) 0 0 (wdC θ ad Y Z S) [(0, .ref (ad 19)), (1, .int a1)] [] 0 (f_X0_traced Z S a1) := by
  show Dk _ _ _ _ _ _ _ _ (if a1 < 0 then some ((-1 : Int32)) else if (S.1 3) ≤ a1 then some ((-1 : Int32)) else if (24 : Int32) ≤ a1 then some ((-1 : Int32)) else chk (inr a1 24) (some (S.2.1 1 (a1).toNatClampNeg)))
  refine k_iload_n (q := 1) C dX0_traced_0 rfl rfl ?_
  refine k_if_lt (tgt := 27) C dX0_traced_1 (by decide) (fun _ => ?_) (fun _ => ?_)
  · refine k_iconst (v := (-1)) C dX0_traced_27 rfl ?_
    exact k_iret C rfl ⟨rfl, rfl⟩ dX0_traced_28
  · refine k_iload_n (q := 1) C dX0_traced_4 rfl rfl ?_
    refine k_aload_n (q := 0) C dX0_traced_5 rfl rfl ?_
    refine c_get (b := 0) (ci := 0) (kf := 3) (N := 5) (v := .int (S.1 3)) C rfl ⟨rfl, rfl⟩ am_19 rfl lay_0 kk_0_3 fl_0_22 rfl dX0_traced_6 ?_
    refine k_icmp_ge (tgt := 27) C dX0_traced_9 (by decide) (fun _ => ?_) (fun _ => ?_)
    · refine k_iconst (v := (-1)) C dX0_traced_27 rfl ?_
      exact k_iret C rfl ⟨rfl, rfl⟩ dX0_traced_28
    · refine k_iload_n (q := 1) C dX0_traced_12 rfl rfl ?_
      refine k_bipush (v := 24) C dX0_traced_13 rfl ?_
      refine k_icmp_ge (tgt := 27) C dX0_traced_15 (by decide) (fun _ => ?_) (fun _ => ?_)
      · refine k_iconst (v := (-1)) C dX0_traced_27 rfl ?_
        exact k_iret C rfl ⟨rfl, rfl⟩ dX0_traced_28
      · refine k_aload_n (q := 0) C dX0_traced_18 rfl rfl ?_
        refine c_get (b := 0) (ci := 0) (kf := 1) (N := 5) C rfl ⟨rfl, rfl⟩ am_19 rfl lay_0 kk_0_1 fl_0_15 rfl dX0_traced_19 ?_
        refine k_iload_n (q := 1) C dX0_traced_22 rfl rfl ?_
        refine c_iald (i := 1) (v := S.2.1 1 (a1).toNatClampNeg) C rfl am_1 ak_1 rfl rfl dX0_traced_23 ?_
        refine k_goto (tgt := 28) C dX0_traced_24 (by decide) ?_
        exact k_iret C rfl ⟨rfl, rfl⟩ dX0_traced_28
theorem ct_X0_traced {l : Launch} {θ : TH} {ad Y : Nat → Nat} {S : St} {Z : Zt} {a1 : Int32}  : ∀ r, f_X0_traced Z S a1 = some r → Ct l θ yX0_traced cX0_traced 2 (some .int) 0 0 0 [.ref (ad 19), .int a1] (wdC θ ad Y Z S) (PI (wdC θ ad Y Z S) r) :=
  fun r hr => Ct.of (by decide +kernel) (Nat.le_of_ble_eq_true rfl) (fun X _ C _ => kw_X0_traced C  r hr)
set_option maxRecDepth 20000 in
theorem kw_X0_bodyAt {X : GX} {θ : TH} {ad Y : Nat → Nat} {Z : Zt} {S : St} {a1 : Int32} {a2 : Int32} (C : CX (mE X θ (wdC θ ad Y Z S) 4) RX0 cX0_bodyAt (some .int) 0 0 0)  : Dk (mE X θ (wdC θ ad Y Z S) 4) (mT X θ (wdC θ ad Y Z S) 4 (PI (wdC θ ad Y Z S))) 0 0 (wdC θ ad Y Z S) [(0, .ref (ad 19)), (1, .int a1), (2, .int a2)] [] 0 (f_X0_bodyAt Z S a1 a2) := by
  show Dk _ _ _ _ _ _ _ _ (if a2 < 0 then some ((0 : Int32)) else if ((a1 * 8) + a2) < 0 then some ((0 : Int32)) else if (32 : Int32) ≤ ((a1 * 8) + a2) then some ((0 : Int32)) else chk (inr ((a1 * 8) + a2) 32) (some (ownF ((a1 * 8) + a2).toNatClampNeg)))
  refine k_iload_n (q := 1) C dX0_bodyAt_0 rfl rfl ?_
  refine k_bipush (v := 8) C dX0_bodyAt_1 rfl ?_
  refine k_imul C dX0_bodyAt_3 ?_
  refine k_iload_n (q := 2) C dX0_bodyAt_4 rfl rfl ?_
  refine k_iadd C dX0_bodyAt_5 ?_
  refine k_istore_n (lv' := [(3, .int ((a1 * 8) + a2)), (0, .ref (ad 19)), (1, .int a1), (2, .int a2)]) C dX0_bodyAt_6 rfl (Nat.le_of_ble_eq_true rfl) rfl ?_
  refine k_iload_n (q := 3) C dX0_bodyAt_7 rfl rfl ?_
  refine k_if_lt (tgt := 31) C dX0_bodyAt_8 (by decide) (fun _ => ?_) (fun _ => ?_)
  · refine k_iconst (v := 0) C dX0_bodyAt_31 rfl ?_
    exact k_iret C rfl ⟨rfl, rfl⟩ dX0_bodyAt_32
  · refine k_iload_n (q := 0) C dX0_bodyAt_11 rfl rfl ?_
    refine k_if_lt (tgt := 31) C dX0_bodyAt_12 (by decide) (fun _ => ?_) (fun _ => ?_)
    · refine k_iconst (v := 0) C dX0_bodyAt_31 rfl ?_
      exact k_iret C rfl ⟨rfl, rfl⟩ dX0_bodyAt_32
    · refine k_iload_n (q := 0) C dX0_bodyAt_15 rfl rfl ?_
      refine c_own C fl_0_66 dX0_bodyAt_16 (fun t1 ht2 => ?_)
      refine c_slen (v := 32) C ht2 rfl dX0_bodyAt_19 ?_
      refine k_icmp_ge (tgt := 31) C dX0_bodyAt_20 (by decide) (fun _ => ?_) (fun _ => ?_)
      · refine k_iconst (v := 0) C dX0_bodyAt_31 rfl ?_
        exact k_iret C rfl ⟨rfl, rfl⟩ dX0_bodyAt_32
      · refine c_own C fl_0_66 dX0_bodyAt_23 (fun t3 ht4 => ?_)
        refine k_iload_n (q := 0) C dX0_bodyAt_26 rfl rfl ?_
        refine c_sald C ht4 dX0_bodyAt_27 ?_
        refine k_goto (tgt := 32) C dX0_bodyAt_28 (by decide) ?_
        exact k_iret C rfl ⟨rfl, rfl⟩ dX0_bodyAt_32
theorem ct_X0_bodyAt {l : Launch} {θ : TH} {ad Y : Nat → Nat} {S : St} {Z : Zt} {a1 : Int32} {a2 : Int32}  : ∀ r, f_X0_bodyAt Z S a1 a2 = some r → Ct l θ yX0_bodyAt cX0_bodyAt 4 (some .int) 0 0 0 [.ref (ad 19), .int a1, .int a2] (wdC θ ad Y Z S) (PI (wdC θ ad Y Z S) r) :=
  fun r hr => Ct.of (by decide +kernel) (Nat.le_of_ble_eq_true rfl) (fun X _ C _ => kw_X0_bodyAt C  r hr)
set_option maxRecDepth 20000 in
theorem kb_X0_note_B19 {X : GX} {θ : TH} {ad Y : Nat → Nat} {S0 : St} {Z : Zt} (C : CX (mE X θ (wdC θ ad Y Z S0) 2) RX0 cX0_note none 0 0 0)  (S : St) : Dk (mE X θ (wdC θ ad Y Z S0) 2) (mT X θ (wdC θ ad Y Z S0) 2 (PVS (wdC θ ad Y Z))) 0 0 (wdC θ ad Y Z S) [(0, .ref (ad 19))] [] 19 (f_X0_note_B19 Z S) := by
  show Dk _ _ _ _ _ _ _ _ (some (sf S 3 ((S.1 3) + 1)))
  refine k_aload_n (q := 0) C dX0_note_19 rfl rfl ?_
  refine k_dup C dX0_note_20 rfl ?_
  refine c_get (b := 0) (ci := 0) (kf := 3) (N := 5) (v := .int (S.1 3)) C rfl ⟨rfl, rfl⟩ am_19 rfl lay_0 kk_0_3 fl_0_22 rfl dX0_note_21 ?_
  refine k_iconst (v := 1) C dX0_note_24 rfl ?_
  refine k_iadd C dX0_note_25 ?_
  refine c_puti (b := 0) (ci := 0) (kf := 3) (N := 5) C rfl ⟨rfl, rfl⟩ am_19 rfl lay_0 tyX0 tyX0_ok nmX0 kk_0_3 fl_0_22 pf_0_3 dX0_note_26 ?_
  exact k_vret C ⟨rfl, rfl⟩ dX0_note_29
set_option maxRecDepth 20000 in
theorem kw_X0_note {X : GX} {θ : TH} {ad Y : Nat → Nat} {Z : Zt} {S : St} {a1 : Int32} (C : CX (mE X θ (wdC θ ad Y Z S) 2) RX0 cX0_note none 0 0 0)  : Dk (mE X θ (wdC θ ad Y Z S) 2) (mT X θ (wdC θ ad Y Z S) 2 (PVS (wdC θ ad Y Z))) 0 0 (wdC θ ad Y Z S) [(0, .ref (ad 19)), (1, .int a1)] [] 0 (f_X0_note Z S a1) := by
  show Dk _ _ _ _ _ _ _ _ (if (24 : Int32) ≤ (S.1 3) then f_X0_note_B19 Z S else chk (inr (S.1 3) 24) (f_X0_note_B19 Z (sa S 1 (S.1 3).toNatClampNeg a1)))
  refine k_aload_n (q := 0) C dX0_note_0 rfl rfl ?_
  refine c_get (b := 0) (ci := 0) (kf := 3) (N := 5) (v := .int (S.1 3)) C rfl ⟨rfl, rfl⟩ am_19 rfl lay_0 kk_0_3 fl_0_22 rfl dX0_note_1 ?_
  refine k_bipush (v := 24) C dX0_note_4 rfl ?_
  refine k_icmp_ge (tgt := 19) C dX0_note_6 (by decide) (fun _ => ?_) (fun _ => ?_)
  · refine Dk.loc [0] rfl ?_
    exact kb_X0_note_B19 C _
  · refine k_aload_n (q := 0) C dX0_note_9 rfl rfl ?_
    refine c_get (b := 0) (ci := 0) (kf := 1) (N := 5) C rfl ⟨rfl, rfl⟩ am_19 rfl lay_0 kk_0_1 fl_0_15 rfl dX0_note_10 ?_
    refine k_aload_n (q := 0) C dX0_note_13 rfl rfl ?_
    refine c_get (b := 0) (ci := 0) (kf := 3) (N := 5) (v := .int (S.1 3)) C rfl ⟨rfl, rfl⟩ am_19 rfl lay_0 kk_0_3 fl_0_22 rfl dX0_note_14 ?_
    refine k_iload_n (q := 1) C dX0_note_17 rfl rfl ?_
    refine c_iast (i := 1) C rfl am_1 ak_1 rfl dX0_note_18 ?_
    refine Dk.loc [0] rfl ?_
    exact kb_X0_note_B19 C _
theorem ct_X0_note {l : Launch} {θ : TH} {ad Y : Nat → Nat} {S : St} {Z : Zt} {a1 : Int32}  : ∀ r, f_X0_note Z S a1 = some r → Ct l θ yX0_note cX0_note 2 none 0 0 0 [.ref (ad 19), .int a1] (wdC θ ad Y Z S) (PVS (wdC θ ad Y Z) r) :=
  fun r hr => Ct.of (by decide +kernel) (Nat.le_of_ble_eq_true rfl) (fun X _ C _ => kw_X0_note C  r hr)
set_option maxRecDepth 20000 in
theorem kw_X0_upper {X : GX} {θ : TH} {ad Y : Nat → Nat} {d : Nat} {F : Nat} {Z : Zt} {g : Nat → St → Int32 → Int32 → Int32 → Int32 → Option (Int32 × St)} {S : St} {a1 : Int32} {a2 : Int32} {a3 : Int32} {a4 : Int32} (C : CX (mE X θ (wdC θ ad Y Z S) 5) RX0 cX0_upper (some .int) (2 + (d + 1)) 0 0) (hg_run : ∀ (S : St) (a1 a2 a3 a4 : Int32) (r : Int32 × St), g 0 S a1 a2 a3 a4 = some r → Ct X.2.1 θ yX0_run cX0_run 7 (some .int) (2 + d) 0 0 [.ref (ad 19), .int a1, .int a2, .int a3, .int a4] (wdC θ ad Y Z S) (PIS (wdC θ ad Y Z) r)) : Dk (mE X θ (wdC θ ad Y Z S) 5) (mT X θ (wdC θ ad Y Z S) 5 (PIS (wdC θ ad Y Z))) 0 0 (wdC θ ad Y Z S) [(0, .ref (ad 19)), (1, .int a1), (2, .int a2), (3, .int a3), (4, .int a4)] [] 0 (f_X0_upper F Z g S a1 a2 a3 a4) := by
  show Dk _ _ _ _ _ _ _ _ ((f_X0_kindAbove Z S a2).bind fun r1 => (g 0 S a1 r1 a3 (a4 + 1)).bind fun r2 => some (r2.1, r2.2))
  refine k_aload_n (q := 0) C dX0_upper_0 rfl rfl ?_
  refine k_iload_n (q := 1) C dX0_upper_1 rfl rfl ?_
  refine k_aload_n (q := 0) C dX0_upper_2 rfl rfl ?_
  refine k_iload_n (q := 2) C dX0_upper_3 rfl rfl ?_
  refine k_cVI C ct_X0_kindAbove my_0_kindAbove ml_0_32 rfl ⟨by omega, Nat.le_of_ble_eq_true rfl⟩ (recvC (b := 0) (ci := 0) rfl ⟨rfl, rfl⟩ am_19 rfl rfl) rfl (Nat.le_of_ble_eq_true rfl) dX0_upper_4 ⟨Nat.le_refl _, Nat.le_refl _⟩ (fun r1 _ => ?_)
  refine k_iload_n (q := 3) C dX0_upper_7 rfl rfl ?_
  refine k_iload (q := 4) C dX0_upper_8 rfl ?_
  refine k_iconst (v := 1) C dX0_upper_10 rfl ?_
  refine k_iadd C dX0_upper_11 ?_
  refine k_cVI C (hg_run _ _ _ _ _) my_0_run ml_0_42 rfl ⟨Nat.le_refl _, Nat.le_of_ble_eq_true rfl⟩ (recvC (b := 0) (ci := 0) rfl ⟨rfl, rfl⟩ am_19 rfl rfl) rfl (Nat.le_of_ble_eq_true rfl) dX0_upper_12 ⟨Nat.le_refl _, Nat.le_refl _⟩ (fun r2 _ => ?_)
  exact k_iret C rfl ⟨rfl, rfl⟩ dX0_upper_15
theorem ct_X0_upper {l : Launch} {θ : TH} {ad Y : Nat → Nat} {S : St} {d : Nat} {F : Nat} {Z : Zt} {g : Nat → St → Int32 → Int32 → Int32 → Int32 → Option (Int32 × St)} {a1 : Int32} {a2 : Int32} {a3 : Int32} {a4 : Int32} (hg_run : ∀ (S : St) (a1 a2 a3 a4 : Int32) (r : Int32 × St), g 0 S a1 a2 a3 a4 = some r → Ct l θ yX0_run cX0_run 7 (some .int) (2 + d) 0 0 [.ref (ad 19), .int a1, .int a2, .int a3, .int a4] (wdC θ ad Y Z S) (PIS (wdC θ ad Y Z) r)) : ∀ r, f_X0_upper F Z g S a1 a2 a3 a4 = some r → Ct l θ yX0_upper cX0_upper 5 (some .int) (2 + (d + 1)) 0 0 [.ref (ad 19), .int a1, .int a2, .int a3, .int a4] (wdC θ ad Y Z S) (PIS (wdC θ ad Y Z) r) :=
  fun r hr => Ct.of (by decide) (Nat.le_of_ble_eq_true rfl) (fun X hX C _ => by subst hX; exact kw_X0_upper C hg_run r hr)
set_option maxRecDepth 20000 in
theorem kw_X0_begin {X : GX} {θ : TH} {ad Y : Nat → Nat} {d : Nat} {F : Nat} {Z : Zt} {g : Nat → St → Int32 → Int32 → Int32 → Int32 → Option (Int32 × St)} {S : St} {a1 : Int32} {a2 : Int32} {a3 : Int32} {a4 : Int32} (C : CX (mE X θ (wdC θ ad Y Z S) 5) RX0 cX0_begin (some .int) (2 + (d + 1)) 0 0) (hg_upper : ∀ (S : St) (a1 a2 a3 a4 : Int32) (r : Int32 × St), g 6 S a1 a2 a3 a4 = some r → Ct X.2.1 θ yX0_upper cX0_upper 5 (some .int) (2 + d) 0 0 [.ref (ad 19), .int a1, .int a2, .int a3, .int a4] (wdC θ ad Y Z S) (PIS (wdC θ ad Y Z) r)) : Dk (mE X θ (wdC θ ad Y Z S) 5) (mT X θ (wdC θ ad Y Z S) 5 (PIS (wdC θ ad Y Z))) 0 0 (wdC θ ad Y Z S) [(0, .ref (ad 19)), (1, .int a1), (2, .int a2), (3, .int a3), (4, .int a4)] [] 0 (f_X0_begin F Z g S a1 a2 a3 a4) := by
  show Dk _ _ _ _ _ _ _ _ (if a1 = 1 then some (a3 + (S.1 4), S) else if a1 = 20 then (g 6 S 0 a2 a3 a4).bind fun r1 => some (r1.1 + 3, r1.2) else if a1 = 70 then (g 6 S 0 a2 a3 a4).bind fun r2 => some (r2.1 * 2, r2.2) else some ((0 : Int32), S))
  refine k_iload_n (q := 1) C dX0_begin_0 rfl rfl ?_
  refine k_case (c := 1) (fun q1 => ?_) (fun q1 => ?_)
  · refine k_lookup (off := 35) (tgt := 36) C dX0_begin_1 (by decide) (by rw [q1]; rfl) (by decide) ?_
    refine k_iload_n (q := 3) C dX0_begin_36 rfl rfl ?_
    refine k_aload_n (q := 0) C dX0_begin_37 rfl rfl ?_
    refine c_get (b := 0) (ci := 0) (kf := 4) (N := 5) (v := .int (S.1 4)) C rfl ⟨rfl, rfl⟩ am_19 rfl lay_0 kk_0_4 fl_0_25 rfl dX0_begin_38 ?_
    refine k_iadd C dX0_begin_41 ?_
    exact k_iret C rfl ⟨rfl, rfl⟩ dX0_begin_42
  refine k_case (c := 20) (fun q2 => ?_) (fun q2 => ?_)
  · refine k_lookup (off := 42) (tgt := 43) C dX0_begin_1 (by decide) (by rw [q2]; rfl) (by decide) ?_
    refine k_aload_n (q := 0) C dX0_begin_43 rfl rfl ?_
    refine k_iconst (v := 0) C dX0_begin_44 rfl ?_
    refine k_iload_n (q := 2) C dX0_begin_45 rfl rfl ?_
    refine k_iload_n (q := 3) C dX0_begin_46 rfl rfl ?_
    refine k_iload (q := 4) C dX0_begin_47 rfl ?_
    refine k_cVI C (hg_upper _ _ _ _ _) my_0_upper ml_0_69 rfl ⟨Nat.le_refl _, Nat.le_of_ble_eq_true rfl⟩ (recvC (b := 0) (ci := 0) rfl ⟨rfl, rfl⟩ am_19 rfl rfl) rfl (Nat.le_of_ble_eq_true rfl) dX0_begin_49 ⟨Nat.le_refl _, Nat.le_refl _⟩ (fun r1 _ => ?_)
    refine k_iconst (v := 3) C dX0_begin_52 rfl ?_
    refine k_iadd C dX0_begin_53 ?_
    exact k_iret C rfl ⟨rfl, rfl⟩ dX0_begin_54
  refine k_case (c := 70) (fun q3 => ?_) (fun q3 => ?_)
  · refine k_lookup (off := 54) (tgt := 55) C dX0_begin_1 (by decide) (by rw [q3]; rfl) (by decide) ?_
    refine k_aload_n (q := 0) C dX0_begin_55 rfl rfl ?_
    refine k_iconst (v := 0) C dX0_begin_56 rfl ?_
    refine k_iload_n (q := 2) C dX0_begin_57 rfl rfl ?_
    refine k_iload_n (q := 3) C dX0_begin_58 rfl rfl ?_
    refine k_iload (q := 4) C dX0_begin_59 rfl ?_
    refine k_cVI C (hg_upper _ _ _ _ _) my_0_upper ml_0_69 rfl ⟨Nat.le_refl _, Nat.le_of_ble_eq_true rfl⟩ (recvC (b := 0) (ci := 0) rfl ⟨rfl, rfl⟩ am_19 rfl rfl) rfl (Nat.le_of_ble_eq_true rfl) dX0_begin_61 ⟨Nat.le_refl _, Nat.le_refl _⟩ (fun r2 _ => ?_)
    refine k_iconst (v := 2) C dX0_begin_64 rfl ?_
    refine k_imul C dX0_begin_65 ?_
    exact k_iret C rfl ⟨rfl, rfl⟩ dX0_begin_66
  refine k_lookup (off := 66) (tgt := 67) C dX0_begin_1 (by decide) (by have zq1 := i32ne q1 (z := 1) rfl; have zq2 := i32ne q2 (z := 20) rfl; have zq3 := i32ne q3 (z := 70) rfl; simp [Op.lookupswitch.offset, Ne.symm zq1, Ne.symm zq2, Ne.symm zq3]) (by decide) ?_
  refine k_iconst (v := 0) C dX0_begin_67 rfl ?_
  exact k_iret C rfl ⟨rfl, rfl⟩ dX0_begin_68
theorem ct_X0_begin {l : Launch} {θ : TH} {ad Y : Nat → Nat} {S : St} {d : Nat} {F : Nat} {Z : Zt} {g : Nat → St → Int32 → Int32 → Int32 → Int32 → Option (Int32 × St)} {a1 : Int32} {a2 : Int32} {a3 : Int32} {a4 : Int32} (hg_upper : ∀ (S : St) (a1 a2 a3 a4 : Int32) (r : Int32 × St), g 6 S a1 a2 a3 a4 = some r → Ct l θ yX0_upper cX0_upper 5 (some .int) (2 + d) 0 0 [.ref (ad 19), .int a1, .int a2, .int a3, .int a4] (wdC θ ad Y Z S) (PIS (wdC θ ad Y Z) r)) : ∀ r, f_X0_begin F Z g S a1 a2 a3 a4 = some r → Ct l θ yX0_begin cX0_begin 5 (some .int) (2 + (d + 1)) 0 0 [.ref (ad 19), .int a1, .int a2, .int a3, .int a4] (wdC θ ad Y Z S) (PIS (wdC θ ad Y Z) r) :=
  fun r hr => Ct.of (by decide) (Nat.le_of_ble_eq_true rfl) (fun X hX C _ => by subst hX; exact kw_X0_begin C hg_upper r hr)
set_option maxRecDepth 20000 in
theorem kw_X0_own {X : GX} {θ : TH} {ad Y : Nat → Nat} {d : Nat} {F : Nat} {Z : Zt} {g : Nat → St → Int32 → Int32 → Int32 → Int32 → Option (Int32 × St)} {S : St} {a1 : Int32} {a2 : Int32} {a3 : Int32} (C : CX (mE X θ (wdC θ ad Y Z S) 4) RX0 cX0_own (some .int) (2 + (d + 1)) 0 0) (hg_run : ∀ (S : St) (a1 a2 a3 a4 : Int32) (r : Int32 × St), g 0 S a1 a2 a3 a4 = some r → Ct X.2.1 θ yX0_run cX0_run 7 (some .int) (2 + d) 0 0 [.ref (ad 19), .int a1, .int a2, .int a3, .int a4] (wdC θ ad Y Z S) (PIS (wdC θ ad Y Z) r)) : Dk (mE X θ (wdC θ ad Y Z S) 4) (mT X θ (wdC θ ad Y Z S) 4 (PIS (wdC θ ad Y Z))) 0 0 (wdC θ ad Y Z S) [(0, .ref (ad 19)), (1, .int a1), (2, .int a2), (3, .int a3)] [] 0 (f_X0_own F Z g S a1 a2 a3) := by
  show Dk _ _ _ _ _ _ _ _ ((f_X0_kindOf Z S (S.1 4)).bind fun r1 => (g 0 S a1 r1 a2 (a3 + 1)).bind fun r2 => some (r2.1, r2.2))
  refine k_aload_n (q := 0) C dX0_own_0 rfl rfl ?_
  refine k_iload_n (q := 1) C dX0_own_1 rfl rfl ?_
  refine k_aload_n (q := 0) C dX0_own_2 rfl rfl ?_
  refine k_aload_n (q := 0) C dX0_own_3 rfl rfl ?_
  refine c_get (b := 0) (ci := 0) (kf := 4) (N := 5) (v := .int (S.1 4)) C rfl ⟨rfl, rfl⟩ am_19 rfl lay_0 kk_0_4 fl_0_25 rfl dX0_own_4 ?_
  refine k_cVI C ct_X0_kindOf my_0_kindOf ml_0_39 rfl ⟨by omega, Nat.le_of_ble_eq_true rfl⟩ (recvC (b := 0) (ci := 0) rfl ⟨rfl, rfl⟩ am_19 rfl rfl) rfl (Nat.le_of_ble_eq_true rfl) dX0_own_7 ⟨Nat.le_refl _, Nat.le_refl _⟩ (fun r1 _ => ?_)
  refine k_iload_n (q := 2) C dX0_own_10 rfl rfl ?_
  refine k_iload_n (q := 3) C dX0_own_11 rfl rfl ?_
  refine k_iconst (v := 1) C dX0_own_12 rfl ?_
  refine k_iadd C dX0_own_13 ?_
  refine k_cVI C (hg_run _ _ _ _ _) my_0_run ml_0_42 rfl ⟨Nat.le_refl _, Nat.le_of_ble_eq_true rfl⟩ (recvC (b := 0) (ci := 0) rfl ⟨rfl, rfl⟩ am_19 rfl rfl) rfl (Nat.le_of_ble_eq_true rfl) dX0_own_14 ⟨Nat.le_refl _, Nat.le_refl _⟩ (fun r2 _ => ?_)
  exact k_iret C rfl ⟨rfl, rfl⟩ dX0_own_17
theorem ct_X0_own {l : Launch} {θ : TH} {ad Y : Nat → Nat} {S : St} {d : Nat} {F : Nat} {Z : Zt} {g : Nat → St → Int32 → Int32 → Int32 → Int32 → Option (Int32 × St)} {a1 : Int32} {a2 : Int32} {a3 : Int32} (hg_run : ∀ (S : St) (a1 a2 a3 a4 : Int32) (r : Int32 × St), g 0 S a1 a2 a3 a4 = some r → Ct l θ yX0_run cX0_run 7 (some .int) (2 + d) 0 0 [.ref (ad 19), .int a1, .int a2, .int a3, .int a4] (wdC θ ad Y Z S) (PIS (wdC θ ad Y Z) r)) : ∀ r, f_X0_own F Z g S a1 a2 a3 = some r → Ct l θ yX0_own cX0_own 4 (some .int) (2 + (d + 1)) 0 0 [.ref (ad 19), .int a1, .int a2, .int a3] (wdC θ ad Y Z S) (PIS (wdC θ ad Y Z) r) :=
  fun r hr => Ct.of (by decide) (Nat.le_of_ble_eq_true rfl) (fun X hX C _ => by subst hX; exact kw_X0_own C hg_run r hr)
set_option maxRecDepth 20000 in
theorem kw_X0_last {X : GX} {θ : TH} {ad Y : Nat → Nat} {d : Nat} {F : Nat} {Z : Zt} {g : Nat → St → Int32 → Int32 → Int32 → Int32 → Option (Int32 × St)} {S : St} {a1 : Int32} {a2 : Int32} {a3 : Int32} {a4 : Int32} (C : CX (mE X θ (wdC θ ad Y Z S) 5) RX0 cX0_last (some .int) (2 + (d + 1)) 0 0) (hg_own : ∀ (S : St) (a1 a2 a3 : Int32) (r : Int32 × St), g 5 S a1 a2 a3 0 = some r → Ct X.2.1 θ yX0_own cX0_own 4 (some .int) (2 + d) 0 0 [.ref (ad 19), .int a1, .int a2, .int a3] (wdC θ ad Y Z S) (PIS (wdC θ ad Y Z) r)) (hg_upper : ∀ (S : St) (a1 a2 a3 a4 : Int32) (r : Int32 × St), g 6 S a1 a2 a3 a4 = some r → Ct X.2.1 θ yX0_upper cX0_upper 5 (some .int) (2 + d) 0 0 [.ref (ad 19), .int a1, .int a2, .int a3, .int a4] (wdC θ ad Y Z S) (PIS (wdC θ ad Y Z) r)) : Dk (mE X θ (wdC θ ad Y Z S) 5) (mT X θ (wdC θ ad Y Z S) 5 (PIS (wdC θ ad Y Z))) 0 0 (wdC θ ad Y Z S) [(0, .ref (ad 19)), (1, .int a1), (2, .int a2), (3, .int a3), (4, .int a4)] [] 0 (f_X0_last F Z g S a1 a2 a3 a4) := by
  show Dk _ _ _ _ _ _ _ _ (if a1 = 10 then (g 5 S 0 a3 a4 0).bind fun r1 => some (r1.1 * 2, r1.2) else if a1 = 30 then (g 6 S 1 a2 a3 a4).bind fun r2 => some (-r2.1, r2.2) else if a1 = 41 then (g 6 S 1 a2 (a3 + 1) a4).bind fun r3 => some (r3.1, r3.2) else if a1 = 80 then (g 6 S 1 a2 a3 a4).bind fun r4 => (g 5 r4.2 2 2 a4 0).bind fun r5 => some (r4.1 + r5.1, r5.2) else some ((0 : Int32), S))
  refine k_iload_n (q := 1) C dX0_last_0 rfl rfl ?_
  refine k_case (c := 10) (fun q1 => ?_) (fun q1 => ?_)
  · refine k_lookup (off := 43) (tgt := 44) C dX0_last_1 (by decide) (by rw [q1]; rfl) (by decide) ?_
    refine k_aload_n (q := 0) C dX0_last_44 rfl rfl ?_
    refine k_iconst (v := 0) C dX0_last_45 rfl ?_
    refine k_iload_n (q := 3) C dX0_last_46 rfl rfl ?_
    refine k_iload (q := 4) C dX0_last_47 rfl ?_
    refine k_cVI C (hg_own _ _ _ _) my_0_own ml_0_72 rfl ⟨Nat.le_refl _, Nat.le_of_ble_eq_true rfl⟩ (recvC (b := 0) (ci := 0) rfl ⟨rfl, rfl⟩ am_19 rfl rfl) rfl (Nat.le_of_ble_eq_true rfl) dX0_last_49 ⟨Nat.le_refl _, Nat.le_refl _⟩ (fun r1 _ => ?_)
    refine k_iconst (v := 2) C dX0_last_52 rfl ?_
    refine k_imul C dX0_last_53 ?_
    exact k_iret C rfl ⟨rfl, rfl⟩ dX0_last_54
  refine k_case (c := 30) (fun q2 => ?_) (fun q2 => ?_)
  · refine k_lookup (off := 54) (tgt := 55) C dX0_last_1 (by decide) (by rw [q2]; rfl) (by decide) ?_
    refine k_aload_n (q := 0) C dX0_last_55 rfl rfl ?_
    refine k_iconst (v := 1) C dX0_last_56 rfl ?_
    refine k_iload_n (q := 2) C dX0_last_57 rfl rfl ?_
    refine k_iload_n (q := 3) C dX0_last_58 rfl rfl ?_
    refine k_iload (q := 4) C dX0_last_59 rfl ?_
    refine k_cVI C (hg_upper _ _ _ _ _) my_0_upper ml_0_69 rfl ⟨Nat.le_refl _, Nat.le_of_ble_eq_true rfl⟩ (recvC (b := 0) (ci := 0) rfl ⟨rfl, rfl⟩ am_19 rfl rfl) rfl (Nat.le_of_ble_eq_true rfl) dX0_last_61 ⟨Nat.le_refl _, Nat.le_refl _⟩ (fun r2 _ => ?_)
    refine k_ineg C dX0_last_64 ?_
    exact k_iret C rfl ⟨rfl, rfl⟩ dX0_last_65
  refine k_case (c := 41) (fun q3 => ?_) (fun q3 => ?_)
  · refine k_lookup (off := 65) (tgt := 66) C dX0_last_1 (by decide) (by rw [q3]; rfl) (by decide) ?_
    refine k_aload_n (q := 0) C dX0_last_66 rfl rfl ?_
    refine k_iconst (v := 1) C dX0_last_67 rfl ?_
    refine k_iload_n (q := 2) C dX0_last_68 rfl rfl ?_
    refine k_iload_n (q := 3) C dX0_last_69 rfl rfl ?_
    refine k_iconst (v := 1) C dX0_last_70 rfl ?_
    refine k_iadd C dX0_last_71 ?_
    refine k_iload (q := 4) C dX0_last_72 rfl ?_
    refine k_cVI C (hg_upper _ _ _ _ _) my_0_upper ml_0_69 rfl ⟨Nat.le_refl _, Nat.le_of_ble_eq_true rfl⟩ (recvC (b := 0) (ci := 0) rfl ⟨rfl, rfl⟩ am_19 rfl rfl) rfl (Nat.le_of_ble_eq_true rfl) dX0_last_74 ⟨Nat.le_refl _, Nat.le_refl _⟩ (fun r3 _ => ?_)
    exact k_iret C rfl ⟨rfl, rfl⟩ dX0_last_77
  refine k_case (c := 80) (fun q4 => ?_) (fun q4 => ?_)
  · refine k_lookup (off := 77) (tgt := 78) C dX0_last_1 (by decide) (by rw [q4]; rfl) (by decide) ?_
    refine k_aload_n (q := 0) C dX0_last_78 rfl rfl ?_
    refine k_iconst (v := 1) C dX0_last_79 rfl ?_
    refine k_iload_n (q := 2) C dX0_last_80 rfl rfl ?_
    refine k_iload_n (q := 3) C dX0_last_81 rfl rfl ?_
    refine k_iload (q := 4) C dX0_last_82 rfl ?_
    refine k_cVI C (hg_upper _ _ _ _ _) my_0_upper ml_0_69 rfl ⟨Nat.le_refl _, Nat.le_of_ble_eq_true rfl⟩ (recvC (b := 0) (ci := 0) rfl ⟨rfl, rfl⟩ am_19 rfl rfl) rfl (Nat.le_of_ble_eq_true rfl) dX0_last_84 ⟨Nat.le_refl _, Nat.le_refl _⟩ (fun r4 _ => ?_)
    refine k_aload_n (q := 0) C dX0_last_87 rfl rfl ?_
    refine k_iconst (v := 2) C dX0_last_88 rfl ?_
    refine k_iconst (v := 2) C dX0_last_89 rfl ?_
    refine k_iload (q := 4) C dX0_last_90 rfl ?_
    refine k_cVI C (hg_own _ _ _ _) my_0_own ml_0_72 rfl ⟨Nat.le_refl _, Nat.le_of_ble_eq_true rfl⟩ (recvC (b := 0) (ci := 0) rfl ⟨rfl, rfl⟩ am_19 rfl rfl) rfl (Nat.le_of_ble_eq_true rfl) dX0_last_92 ⟨Nat.le_refl _, Nat.le_refl _⟩ (fun r5 _ => ?_)
    refine k_iadd C dX0_last_95 ?_
    exact k_iret C rfl ⟨rfl, rfl⟩ dX0_last_96
  refine k_lookup (off := 96) (tgt := 97) C dX0_last_1 (by decide) (by have zq1 := i32ne q1 (z := 10) rfl; have zq2 := i32ne q2 (z := 30) rfl; have zq3 := i32ne q3 (z := 41) rfl; have zq4 := i32ne q4 (z := 80) rfl; simp [Op.lookupswitch.offset, Ne.symm zq1, Ne.symm zq2, Ne.symm zq3, Ne.symm zq4]) (by decide) ?_
  refine k_iconst (v := 0) C dX0_last_97 rfl ?_
  exact k_iret C rfl ⟨rfl, rfl⟩ dX0_last_98
theorem ct_X0_last {l : Launch} {θ : TH} {ad Y : Nat → Nat} {S : St} {d : Nat} {F : Nat} {Z : Zt} {g : Nat → St → Int32 → Int32 → Int32 → Int32 → Option (Int32 × St)} {a1 : Int32} {a2 : Int32} {a3 : Int32} {a4 : Int32} (hg_own : ∀ (S : St) (a1 a2 a3 : Int32) (r : Int32 × St), g 5 S a1 a2 a3 0 = some r → Ct l θ yX0_own cX0_own 4 (some .int) (2 + d) 0 0 [.ref (ad 19), .int a1, .int a2, .int a3] (wdC θ ad Y Z S) (PIS (wdC θ ad Y Z) r)) (hg_upper : ∀ (S : St) (a1 a2 a3 a4 : Int32) (r : Int32 × St), g 6 S a1 a2 a3 a4 = some r → Ct l θ yX0_upper cX0_upper 5 (some .int) (2 + d) 0 0 [.ref (ad 19), .int a1, .int a2, .int a3, .int a4] (wdC θ ad Y Z S) (PIS (wdC θ ad Y Z) r)) : ∀ r, f_X0_last F Z g S a1 a2 a3 a4 = some r → Ct l θ yX0_last cX0_last 5 (some .int) (2 + (d + 1)) 0 0 [.ref (ad 19), .int a1, .int a2, .int a3, .int a4] (wdC θ ad Y Z S) (PIS (wdC θ ad Y Z) r) :=
  fun r hr => Ct.of (by decide) (Nat.le_of_ble_eq_true rfl) (fun X hX C _ => by subst hX; exact kw_X0_last C hg_own hg_upper r hr)
set_option maxRecDepth 20000 in
theorem kw_X0_end {X : GX} {θ : TH} {ad Y : Nat → Nat} {d : Nat} {F : Nat} {Z : Zt} {g : Nat → St → Int32 → Int32 → Int32 → Int32 → Option (Int32 × St)} {S : St} {a1 : Int32} {a2 : Int32} {a3 : Int32} {a4 : Int32} (C : CX (mE X θ (wdC θ ad Y Z S) 5) RX0 cX0_end (some .int) (2 + (d + 1)) 0 0) (hg_upper : ∀ (S : St) (a1 a2 a3 a4 : Int32) (r : Int32 × St), g 6 S a1 a2 a3 a4 = some r → Ct X.2.1 θ yX0_upper cX0_upper 5 (some .int) (2 + d) 0 0 [.ref (ad 19), .int a1, .int a2, .int a3, .int a4] (wdC θ ad Y Z S) (PIS (wdC θ ad Y Z) r)) (hg_own : ∀ (S : St) (a1 a2 a3 : Int32) (r : Int32 × St), g 5 S a1 a2 a3 0 = some r → Ct X.2.1 θ yX0_own cX0_own 4 (some .int) (2 + d) 0 0 [.ref (ad 19), .int a1, .int a2, .int a3] (wdC θ ad Y Z S) (PIS (wdC θ ad Y Z) r)) : Dk (mE X θ (wdC θ ad Y Z S) 5) (mT X θ (wdC θ ad Y Z S) 5 (PIS (wdC θ ad Y Z))) 0 0 (wdC θ ad Y Z S) [(0, .ref (ad 19)), (1, .int a1), (2, .int a2), (3, .int a3), (4, .int a4)] [] 0 (f_X0_end F Z g S a1 a2 a3 a4) := by
  show Dk _ _ _ _ _ _ _ _ (if a1 = 11 then some (a3 ^^^ (S.1 4), S) else if a1 = 40 then (g 6 S 2 a2 a3 a4).bind fun r1 => some (r1.1 * 3, r1.2) else if a1 = 50 then (g 6 S 2 a2 a3 a4).bind fun r2 => (g 5 r2.2 0 2 a4 0).bind fun r3 => some (r2.1 - r3.1, r3.2) else some ((0 : Int32), S))
  refine k_iload_n (q := 1) C dX0_end_0 rfl rfl ?_
  refine k_case (c := 11) (fun q1 => ?_) (fun q1 => ?_)
  · refine k_lookup (off := 35) (tgt := 36) C dX0_end_1 (by decide) (by rw [q1]; rfl) (by decide) ?_
    refine k_iload_n (q := 3) C dX0_end_36 rfl rfl ?_
    refine k_aload_n (q := 0) C dX0_end_37 rfl rfl ?_
    refine c_get (b := 0) (ci := 0) (kf := 4) (N := 5) (v := .int (S.1 4)) C rfl ⟨rfl, rfl⟩ am_19 rfl lay_0 kk_0_4 fl_0_25 rfl dX0_end_38 ?_
    refine k_ixor C dX0_end_41 ?_
    exact k_iret C rfl ⟨rfl, rfl⟩ dX0_end_42
  refine k_case (c := 40) (fun q2 => ?_) (fun q2 => ?_)
  · refine k_lookup (off := 42) (tgt := 43) C dX0_end_1 (by decide) (by rw [q2]; rfl) (by decide) ?_
    refine k_aload_n (q := 0) C dX0_end_43 rfl rfl ?_
    refine k_iconst (v := 2) C dX0_end_44 rfl ?_
    refine k_iload_n (q := 2) C dX0_end_45 rfl rfl ?_
    refine k_iload_n (q := 3) C dX0_end_46 rfl rfl ?_
    refine k_iload (q := 4) C dX0_end_47 rfl ?_
    refine k_cVI C (hg_upper _ _ _ _ _) my_0_upper ml_0_69 rfl ⟨Nat.le_refl _, Nat.le_of_ble_eq_true rfl⟩ (recvC (b := 0) (ci := 0) rfl ⟨rfl, rfl⟩ am_19 rfl rfl) rfl (Nat.le_of_ble_eq_true rfl) dX0_end_49 ⟨Nat.le_refl _, Nat.le_refl _⟩ (fun r1 _ => ?_)
    refine k_iconst (v := 3) C dX0_end_52 rfl ?_
    refine k_imul C dX0_end_53 ?_
    exact k_iret C rfl ⟨rfl, rfl⟩ dX0_end_54
  refine k_case (c := 50) (fun q3 => ?_) (fun q3 => ?_)
  · refine k_lookup (off := 54) (tgt := 55) C dX0_end_1 (by decide) (by rw [q3]; rfl) (by decide) ?_
    refine k_aload_n (q := 0) C dX0_end_55 rfl rfl ?_
    refine k_iconst (v := 2) C dX0_end_56 rfl ?_
    refine k_iload_n (q := 2) C dX0_end_57 rfl rfl ?_
    refine k_iload_n (q := 3) C dX0_end_58 rfl rfl ?_
    refine k_iload (q := 4) C dX0_end_59 rfl ?_
    refine k_cVI C (hg_upper _ _ _ _ _) my_0_upper ml_0_69 rfl ⟨Nat.le_refl _, Nat.le_of_ble_eq_true rfl⟩ (recvC (b := 0) (ci := 0) rfl ⟨rfl, rfl⟩ am_19 rfl rfl) rfl (Nat.le_of_ble_eq_true rfl) dX0_end_61 ⟨Nat.le_refl _, Nat.le_refl _⟩ (fun r2 _ => ?_)
    refine k_aload_n (q := 0) C dX0_end_64 rfl rfl ?_
    refine k_iconst (v := 0) C dX0_end_65 rfl ?_
    refine k_iconst (v := 2) C dX0_end_66 rfl ?_
    refine k_iload (q := 4) C dX0_end_67 rfl ?_
    refine k_cVI C (hg_own _ _ _ _) my_0_own ml_0_72 rfl ⟨Nat.le_refl _, Nat.le_of_ble_eq_true rfl⟩ (recvC (b := 0) (ci := 0) rfl ⟨rfl, rfl⟩ am_19 rfl rfl) rfl (Nat.le_of_ble_eq_true rfl) dX0_end_69 ⟨Nat.le_refl _, Nat.le_refl _⟩ (fun r3 _ => ?_)
    refine k_isub C dX0_end_72 ?_
    exact k_iret C rfl ⟨rfl, rfl⟩ dX0_end_73
  refine k_lookup (off := 73) (tgt := 74) C dX0_end_1 (by decide) (by have zq1 := i32ne q1 (z := 11) rfl; have zq2 := i32ne q2 (z := 40) rfl; have zq3 := i32ne q3 (z := 50) rfl; simp [Op.lookupswitch.offset, Ne.symm zq1, Ne.symm zq2, Ne.symm zq3]) (by decide) ?_
  refine k_iconst (v := 0) C dX0_end_74 rfl ?_
  exact k_iret C rfl ⟨rfl, rfl⟩ dX0_end_75
theorem ct_X0_end {l : Launch} {θ : TH} {ad Y : Nat → Nat} {S : St} {d : Nat} {F : Nat} {Z : Zt} {g : Nat → St → Int32 → Int32 → Int32 → Int32 → Option (Int32 × St)} {a1 : Int32} {a2 : Int32} {a3 : Int32} {a4 : Int32} (hg_upper : ∀ (S : St) (a1 a2 a3 a4 : Int32) (r : Int32 × St), g 6 S a1 a2 a3 a4 = some r → Ct l θ yX0_upper cX0_upper 5 (some .int) (2 + d) 0 0 [.ref (ad 19), .int a1, .int a2, .int a3, .int a4] (wdC θ ad Y Z S) (PIS (wdC θ ad Y Z) r)) (hg_own : ∀ (S : St) (a1 a2 a3 : Int32) (r : Int32 × St), g 5 S a1 a2 a3 0 = some r → Ct l θ yX0_own cX0_own 4 (some .int) (2 + d) 0 0 [.ref (ad 19), .int a1, .int a2, .int a3] (wdC θ ad Y Z S) (PIS (wdC θ ad Y Z) r)) : ∀ r, f_X0_end F Z g S a1 a2 a3 a4 = some r → Ct l θ yX0_end cX0_end 5 (some .int) (2 + (d + 1)) 0 0 [.ref (ad 19), .int a1, .int a2, .int a3, .int a4] (wdC θ ad Y Z S) (PIS (wdC θ ad Y Z) r) :=
  fun r hr => Ct.of (by decide) (Nat.le_of_ble_eq_true rfl) (fun X hX C _ => by subst hX; exact kw_X0_end C hg_upper hg_own r hr)
set_option maxRecDepth 20000 in
theorem kw_X0_tell {X : GX} {θ : TH} {ad Y : Nat → Nat} {d : Nat} {F : Nat} {Z : Zt} {g : Nat → St → Int32 → Int32 → Int32 → Int32 → Option (Int32 × St)} {S : St} {a1 : Int32} {a2 : Int32} {a3 : Int32} {a4 : Int32} (C : CX (mE X θ (wdC θ ad Y Z S) 5) RX0 cX0_tell (some .int) (2 + (d + 1)) 0 0) (hg_own : ∀ (S : St) (a1 a2 a3 : Int32) (r : Int32 × St), g 5 S a1 a2 a3 0 = some r → Ct X.2.1 θ yX0_own cX0_own 4 (some .int) (2 + d) 0 0 [.ref (ad 19), .int a1, .int a2, .int a3] (wdC θ ad Y Z S) (PIS (wdC θ ad Y Z) r)) (hg_upper : ∀ (S : St) (a1 a2 a3 a4 : Int32) (r : Int32 × St), g 6 S a1 a2 a3 a4 = some r → Ct X.2.1 θ yX0_upper cX0_upper 5 (some .int) (2 + d) 0 0 [.ref (ad 19), .int a1, .int a2, .int a3, .int a4] (wdC θ ad Y Z S) (PIS (wdC θ ad Y Z) r)) : Dk (mE X θ (wdC θ ad Y Z S) 5) (mT X θ (wdC θ ad Y Z S) 5 (PIS (wdC θ ad Y Z))) 0 0 (wdC θ ad Y Z S) [(0, .ref (ad 19)), (1, .int a1), (2, .int a2), (3, .int a3), (4, .int a4)] [] 0 (f_X0_tell F Z g S a1 a2 a3 a4) := by
  show Dk _ _ _ _ _ _ _ _ (if a1 = 2 then (g 5 S 1 a3 a4 0).bind fun r1 => (g 5 r1.2 2 1 a4 0).bind fun r2 => some (r1.1 - r2.1, r2.2) else if a1 = 60 then (g 6 S 3 a2 a3 a4).bind fun r3 => some (r3.1 ^^^ 5, r3.2) else if a1 = 81 then (g 6 S 3 a2 a3 a4).bind fun r4 => some (r4.1 - 1, r4.2) else some ((0 : Int32), S))
  refine k_iload_n (q := 1) C dX0_tell_0 rfl rfl ?_
  refine k_case (c := 2) (fun q1 => ?_) (fun q1 => ?_)
  · refine k_lookup (off := 35) (tgt := 36) C dX0_tell_1 (by decide) (by rw [q1]; rfl) (by decide) ?_
    refine k_aload_n (q := 0) C dX0_tell_36 rfl rfl ?_
    refine k_iconst (v := 1) C dX0_tell_37 rfl ?_
    refine k_iload_n (q := 3) C dX0_tell_38 rfl rfl ?_
    refine k_iload (q := 4) C dX0_tell_39 rfl ?_
    refine k_cVI C (hg_own _ _ _ _) my_0_own ml_0_72 rfl ⟨Nat.le_refl _, Nat.le_of_ble_eq_true rfl⟩ (recvC (b := 0) (ci := 0) rfl ⟨rfl, rfl⟩ am_19 rfl rfl) rfl (Nat.le_of_ble_eq_true rfl) dX0_tell_41 ⟨Nat.le_refl _, Nat.le_refl _⟩ (fun r1 _ => ?_)
    refine k_aload_n (q := 0) C dX0_tell_44 rfl rfl ?_
    refine k_iconst (v := 2) C dX0_tell_45 rfl ?_
    refine k_iconst (v := 1) C dX0_tell_46 rfl ?_
    refine k_iload (q := 4) C dX0_tell_47 rfl ?_
    refine k_cVI C (hg_own _ _ _ _) my_0_own ml_0_72 rfl ⟨Nat.le_refl _, Nat.le_of_ble_eq_true rfl⟩ (recvC (b := 0) (ci := 0) rfl ⟨rfl, rfl⟩ am_19 rfl rfl) rfl (Nat.le_of_ble_eq_true rfl) dX0_tell_49 ⟨Nat.le_refl _, Nat.le_refl _⟩ (fun r2 _ => ?_)
    refine k_isub C dX0_tell_52 ?_
    exact k_iret C rfl ⟨rfl, rfl⟩ dX0_tell_53
  refine k_case (c := 60) (fun q2 => ?_) (fun q2 => ?_)
  · refine k_lookup (off := 53) (tgt := 54) C dX0_tell_1 (by decide) (by rw [q2]; rfl) (by decide) ?_
    refine k_aload_n (q := 0) C dX0_tell_54 rfl rfl ?_
    refine k_iconst (v := 3) C dX0_tell_55 rfl ?_
    refine k_iload_n (q := 2) C dX0_tell_56 rfl rfl ?_
    refine k_iload_n (q := 3) C dX0_tell_57 rfl rfl ?_
    refine k_iload (q := 4) C dX0_tell_58 rfl ?_
    refine k_cVI C (hg_upper _ _ _ _ _) my_0_upper ml_0_69 rfl ⟨Nat.le_refl _, Nat.le_of_ble_eq_true rfl⟩ (recvC (b := 0) (ci := 0) rfl ⟨rfl, rfl⟩ am_19 rfl rfl) rfl (Nat.le_of_ble_eq_true rfl) dX0_tell_60 ⟨Nat.le_refl _, Nat.le_refl _⟩ (fun r3 _ => ?_)
    refine k_iconst (v := 5) C dX0_tell_63 rfl ?_
    refine k_ixor C dX0_tell_64 ?_
    exact k_iret C rfl ⟨rfl, rfl⟩ dX0_tell_65
  refine k_case (c := 81) (fun q3 => ?_) (fun q3 => ?_)
  · refine k_lookup (off := 65) (tgt := 66) C dX0_tell_1 (by decide) (by rw [q3]; rfl) (by decide) ?_
    refine k_aload_n (q := 0) C dX0_tell_66 rfl rfl ?_
    refine k_iconst (v := 3) C dX0_tell_67 rfl ?_
    refine k_iload_n (q := 2) C dX0_tell_68 rfl rfl ?_
    refine k_iload_n (q := 3) C dX0_tell_69 rfl rfl ?_
    refine k_iload (q := 4) C dX0_tell_70 rfl ?_
    refine k_cVI C (hg_upper _ _ _ _ _) my_0_upper ml_0_69 rfl ⟨Nat.le_refl _, Nat.le_of_ble_eq_true rfl⟩ (recvC (b := 0) (ci := 0) rfl ⟨rfl, rfl⟩ am_19 rfl rfl) rfl (Nat.le_of_ble_eq_true rfl) dX0_tell_72 ⟨Nat.le_refl _, Nat.le_refl _⟩ (fun r4 _ => ?_)
    refine k_iconst (v := 1) C dX0_tell_75 rfl ?_
    refine k_isub C dX0_tell_76 ?_
    exact k_iret C rfl ⟨rfl, rfl⟩ dX0_tell_77
  refine k_lookup (off := 77) (tgt := 78) C dX0_tell_1 (by decide) (by have zq1 := i32ne q1 (z := 2) rfl; have zq2 := i32ne q2 (z := 60) rfl; have zq3 := i32ne q3 (z := 81) rfl; simp [Op.lookupswitch.offset, Ne.symm zq1, Ne.symm zq2, Ne.symm zq3]) (by decide) ?_
  refine k_iconst (v := 0) C dX0_tell_78 rfl ?_
  exact k_iret C rfl ⟨rfl, rfl⟩ dX0_tell_79
theorem ct_X0_tell {l : Launch} {θ : TH} {ad Y : Nat → Nat} {S : St} {d : Nat} {F : Nat} {Z : Zt} {g : Nat → St → Int32 → Int32 → Int32 → Int32 → Option (Int32 × St)} {a1 : Int32} {a2 : Int32} {a3 : Int32} {a4 : Int32} (hg_own : ∀ (S : St) (a1 a2 a3 : Int32) (r : Int32 × St), g 5 S a1 a2 a3 0 = some r → Ct l θ yX0_own cX0_own 4 (some .int) (2 + d) 0 0 [.ref (ad 19), .int a1, .int a2, .int a3] (wdC θ ad Y Z S) (PIS (wdC θ ad Y Z) r)) (hg_upper : ∀ (S : St) (a1 a2 a3 a4 : Int32) (r : Int32 × St), g 6 S a1 a2 a3 a4 = some r → Ct l θ yX0_upper cX0_upper 5 (some .int) (2 + d) 0 0 [.ref (ad 19), .int a1, .int a2, .int a3, .int a4] (wdC θ ad Y Z S) (PIS (wdC θ ad Y Z) r)) : ∀ r, f_X0_tell F Z g S a1 a2 a3 a4 = some r → Ct l θ yX0_tell cX0_tell 5 (some .int) (2 + (d + 1)) 0 0 [.ref (ad 19), .int a1, .int a2, .int a3, .int a4] (wdC θ ad Y Z S) (PIS (wdC θ ad Y Z) r) :=
  fun r hr => Ct.of (by decide) (Nat.le_of_ble_eq_true rfl) (fun X hX C _ => by subst hX; exact kw_X0_tell C hg_own hg_upper r hr)
set_option maxRecDepth 20000 in
theorem kb_X0_run_B42 {X : GX} {θ : TH} {ad Y : Nat → Nat} {S0 : St} {d : Nat} {F : Nat} {Z : Zt} {g : Nat → St → Int32 → Int32 → Int32 → Int32 → Option (Int32 × St)} {a1 : Int32} {a3 : Int32} {a4 : Int32} (C : CX (mE X θ (wdC θ ad Y Z S0) 7) RX0 cX0_run (some .int) (2 + (d + 1)) 0 0) (hg_begin : ∀ (S : St) (a1 a2 a3 a4 : Int32) (r : Int32 × St), g 1 S a1 a2 a3 a4 = some r → Ct X.2.1 θ yX0_begin cX0_begin 5 (some .int) (2 + d) 0 0 [.ref (ad 19), .int a1, .int a2, .int a3, .int a4] (wdC θ ad Y Z S) (PIS (wdC θ ad Y Z) r)) (hg_last : ∀ (S : St) (a1 a2 a3 a4 : Int32) (r : Int32 × St), g 2 S a1 a2 a3 a4 = some r → Ct X.2.1 θ yX0_last cX0_last 5 (some .int) (2 + d) 0 0 [.ref (ad 19), .int a1, .int a2, .int a3, .int a4] (wdC θ ad Y Z S) (PIS (wdC θ ad Y Z) r)) (hg_end : ∀ (S : St) (a1 a2 a3 a4 : Int32) (r : Int32 × St), g 3 S a1 a2 a3 a4 = some r → Ct X.2.1 θ yX0_end cX0_end 5 (some .int) (2 + d) 0 0 [.ref (ad 19), .int a1, .int a2, .int a3, .int a4] (wdC θ ad Y Z S) (PIS (wdC θ ad Y Z) r)) (hg_tell : ∀ (S : St) (a1 a2 a3 a4 : Int32) (r : Int32 × St), g 4 S a1 a2 a3 a4 = some r → Ct X.2.1 θ yX0_tell cX0_tell 5 (some .int) (2 + d) 0 0 [.ref (ad 19), .int a1, .int a2, .int a3, .int a4] (wdC θ ad Y Z S) (PIS (wdC θ ad Y Z) r)) (S : St) (x5 : Int32) : Dk (mE X θ (wdC θ ad Y Z S0) 7) (mT X θ (wdC θ ad Y Z S0) 7 (PIS (wdC θ ad Y Z))) 0 0 (wdC θ ad Y Z S) [(0, .ref (ad 19)), (1, .int a1), (3, .int a3), (4, .int a4), (5, .int x5)] [] 42 (f_X0_run_B42 F Z g a1 a3 a4 S x5) := by
  show Dk _ _ _ _ _ _ _ _ (if a4 ≤ 40 then (f_X0_bodyAt Z S a1 x5).bind fun r3 => (f_X0_note Z S r3).bind fun r4 => (if a1 = 0 then (g 1 r4 r3 x5 a3 a4).bind fun r5 => some (r5.1, r5.2) else if a1 = 1 then (g 2 r4 r3 x5 a3 a4).bind fun r6 => some (r6.1, r6.2) else if a1 = 2 then (g 3 r4 r3 x5 a3 a4).bind fun r7 => some (r7.1, r7.2) else (g 4 r4 r3 x5 a3 a4).bind fun r8 => some (r8.1, r8.2)) else some ((0 : Int32), S))
  refine k_iload (q := 3) C dX0_run_42 rfl ?_
  refine k_bipush (v := 40) C dX0_run_44 rfl ?_
  refine k_icmp_le (tgt := 51) C dX0_run_46 (by decide) (fun _ => ?_) (fun _ => ?_)
  · refine k_aload_n (q := 0) C dX0_run_51 rfl rfl ?_
    refine k_iload_n (q := 1) C dX0_run_52 rfl rfl ?_
    refine k_iload (q := 4) C dX0_run_53 rfl ?_
    refine k_cVI C ct_X0_bodyAt my_0_bodyAt ml_0_46 rfl ⟨by omega, Nat.le_of_ble_eq_true rfl⟩ (recvC (b := 0) (ci := 0) rfl ⟨rfl, rfl⟩ am_19 rfl rfl) rfl (Nat.le_of_ble_eq_true rfl) dX0_run_55 ⟨Nat.le_refl _, Nat.le_refl _⟩ (fun r3 _ => ?_)
    refine k_istore (lv' := [(6, .int r3), (0, .ref (ad 19)), (1, .int a1), (3, .int a3), (4, .int a4), (5, .int x5)]) C dX0_run_58 (Nat.le_of_ble_eq_true rfl) rfl ?_
    refine k_aload_n (q := 1) C dX0_run_60 rfl rfl ?_
    refine k_iload (q := 0) C dX0_run_61 rfl ?_
    refine k_cVV C ct_X0_note my_0_note ml_0_50 rfl ⟨by omega, Nat.le_of_ble_eq_true rfl⟩ (recvC (b := 0) (ci := 0) rfl ⟨rfl, rfl⟩ am_19 rfl rfl) rfl (Nat.le_of_ble_eq_true rfl) dX0_run_63 ⟨Nat.le_refl _, Nat.le_refl _⟩ (fun r4 _ => ?_)
    refine k_iload_n (q := 2) C dX0_run_66 rfl rfl ?_
    refine k_case (c := 0) (fun q1 => ?_) (fun q1 => ?_)
    · refine k_tableIn (off := 25) (tgt := 92) C dX0_run_67 (by rw [q1]; decide) (by rw [q1]; decide) (by rw [q1]; rfl) (by decide) ?_
      refine k_aload_n (q := 1) C dX0_run_92 rfl rfl ?_
      refine k_iload (q := 0) C dX0_run_93 rfl ?_
      refine k_iload (q := 5) C dX0_run_95 rfl ?_
      refine k_iload_n (q := 3) C dX0_run_97 rfl rfl ?_
      refine k_iload (q := 4) C dX0_run_98 rfl ?_
      refine k_cVI C (hg_begin _ _ _ _ _) my_0_begin ml_0_54 rfl ⟨Nat.le_refl _, Nat.le_of_ble_eq_true rfl⟩ (recvC (b := 0) (ci := 0) rfl ⟨rfl, rfl⟩ am_19 rfl rfl) rfl (Nat.le_of_ble_eq_true rfl) dX0_run_100 ⟨Nat.le_refl _, Nat.le_refl _⟩ (fun r5 _ => ?_)
      exact k_iret C rfl ⟨rfl, rfl⟩ dX0_run_103
    refine k_case (c := 1) (fun q2 => ?_) (fun q2 => ?_)
    · refine k_tableIn (off := 37) (tgt := 104) C dX0_run_67 (by rw [q2]; decide) (by rw [q2]; decide) (by rw [q2]; rfl) (by decide) ?_
      refine k_aload_n (q := 1) C dX0_run_104 rfl rfl ?_
      refine k_iload (q := 0) C dX0_run_105 rfl ?_
      refine k_iload (q := 5) C dX0_run_107 rfl ?_
      refine k_iload_n (q := 3) C dX0_run_109 rfl rfl ?_
      refine k_iload (q := 4) C dX0_run_110 rfl ?_
      refine k_cVI C (hg_last _ _ _ _ _) my_0_last ml_0_57 rfl ⟨Nat.le_refl _, Nat.le_of_ble_eq_true rfl⟩ (recvC (b := 0) (ci := 0) rfl ⟨rfl, rfl⟩ am_19 rfl rfl) rfl (Nat.le_of_ble_eq_true rfl) dX0_run_112 ⟨Nat.le_refl _, Nat.le_refl _⟩ (fun r6 _ => ?_)
      exact k_iret C rfl ⟨rfl, rfl⟩ dX0_run_115
    refine k_case (c := 2) (fun q3 => ?_) (fun q3 => ?_)
    · refine k_tableIn (off := 49) (tgt := 116) C dX0_run_67 (by rw [q3]; decide) (by rw [q3]; decide) (by rw [q3]; rfl) (by decide) ?_
      refine k_aload_n (q := 1) C dX0_run_116 rfl rfl ?_
      refine k_iload (q := 0) C dX0_run_117 rfl ?_
      refine k_iload (q := 5) C dX0_run_119 rfl ?_
      refine k_iload_n (q := 3) C dX0_run_121 rfl rfl ?_
      refine k_iload (q := 4) C dX0_run_122 rfl ?_
      refine k_cVI C (hg_end _ _ _ _ _) my_0_end ml_0_60 rfl ⟨Nat.le_refl _, Nat.le_of_ble_eq_true rfl⟩ (recvC (b := 0) (ci := 0) rfl ⟨rfl, rfl⟩ am_19 rfl rfl) rfl (Nat.le_of_ble_eq_true rfl) dX0_run_124 ⟨Nat.le_refl _, Nat.le_refl _⟩ (fun r7 _ => ?_)
      exact k_iret C rfl ⟨rfl, rfl⟩ dX0_run_127
    refine k_tableOut (tgt := 128) C dX0_run_67 (by have zq1 := i32ne q1 (z := 0) rfl; have zq2 := i32ne q2 (z := 1) rfl; have zq3 := i32ne q3 (z := 2) rfl; omega) (by decide) ?_
    refine k_aload_n (q := 1) C dX0_run_128 rfl rfl ?_
    refine k_iload (q := 0) C dX0_run_129 rfl ?_
    refine k_iload (q := 5) C dX0_run_131 rfl ?_
    refine k_iload_n (q := 3) C dX0_run_133 rfl rfl ?_
    refine k_iload (q := 4) C dX0_run_134 rfl ?_
    refine k_cVI C (hg_tell _ _ _ _ _) my_0_tell ml_0_63 rfl ⟨Nat.le_refl _, Nat.le_of_ble_eq_true rfl⟩ (recvC (b := 0) (ci := 0) rfl ⟨rfl, rfl⟩ am_19 rfl rfl) rfl (Nat.le_of_ble_eq_true rfl) dX0_run_136 ⟨Nat.le_refl _, Nat.le_refl _⟩ (fun r8 _ => ?_)
    exact k_iret C rfl ⟨rfl, rfl⟩ dX0_run_139
  · refine k_iconst (v := 0) C dX0_run_49 rfl ?_
    exact k_iret C rfl ⟨rfl, rfl⟩ dX0_run_50
set_option maxRecDepth 20000 in
theorem kb_X0_run_L6 {X : GX} {θ : TH} {ad Y : Nat → Nat} {S0 : St} {d : Nat} {F : Nat} {Z : Zt} {g : Nat → St → Int32 → Int32 → Int32 → Int32 → Option (Int32 × St)} {a1 : Int32} {a3 : Int32} {a4 : Int32} (C : CX (mE X θ (wdC θ ad Y Z S0) 7) RX0 cX0_run (some .int) (2 + (d + 1)) 0 0) (hg_begin : ∀ (S : St) (a1 a2 a3 a4 : Int32) (r : Int32 × St), g 1 S a1 a2 a3 a4 = some r → Ct X.2.1 θ yX0_begin cX0_begin 5 (some .int) (2 + d) 0 0 [.ref (ad 19), .int a1, .int a2, .int a3, .int a4] (wdC θ ad Y Z S) (PIS (wdC θ ad Y Z) r)) (hg_last : ∀ (S : St) (a1 a2 a3 a4 : Int32) (r : Int32 × St), g 2 S a1 a2 a3 a4 = some r → Ct X.2.1 θ yX0_last cX0_last 5 (some .int) (2 + d) 0 0 [.ref (ad 19), .int a1, .int a2, .int a3, .int a4] (wdC θ ad Y Z S) (PIS (wdC θ ad Y Z) r)) (hg_end : ∀ (S : St) (a1 a2 a3 a4 : Int32) (r : Int32 × St), g 3 S a1 a2 a3 a4 = some r → Ct X.2.1 θ yX0_end cX0_end 5 (some .int) (2 + d) 0 0 [.ref (ad 19), .int a1, .int a2, .int a3, .int a4] (wdC θ ad Y Z S) (PIS (wdC θ ad Y Z) r)) (hg_tell : ∀ (S : St) (a1 a2 a3 a4 : Int32) (r : Int32 × St), g 4 S a1 a2 a3 a4 = some r → Ct X.2.1 θ yX0_tell cX0_tell 5 (some .int) (2 + d) 0 0 [.ref (ad 19), .int a1, .int a2, .int a3, .int a4] (wdC θ ad Y Z S) (PIS (wdC θ ad Y Z) r)) : ∀ (n : Nat) (S : St) (x5 : Int32) (x6 : Int32), Dk (mE X θ (wdC θ ad Y Z S0) 7) (mT X θ (wdC θ ad Y Z S0) 7 (PIS (wdC θ ad Y Z))) 0 0 (wdC θ ad Y Z S) [(0, .ref (ad 19)), (1, .int a1), (3, .int a3), (4, .int a4), (5, .int x5), (6, .int x6)] [] 6 (f_X0_run_L6 F Z g a1 a3 a4 n S x5 x6) := by
  intro n
  induction n with
  | zero => intro S x5 x6; exact Dk.none
  | succ n ih =>
    intro S x5 x6
    show Dk _ _ _ _ _ _ _ _ (if (8 : Int32) ≤ x6 then f_X0_run_B42 F Z g a1 a3 a4 S x5 else if x5 ≤ 0 then f_X0_run_B42 F Z g a1 a3 a4 S x5 else (f_X0_bodyAt Z S a1 x5).bind fun r1 => (if r1 = 0 then (f_X0_kindAbove Z S x5).bind fun r2 => f_X0_run_L6 F Z g a1 a3 a4 n S r2 (x6 + 1) else f_X0_run_B42 F Z g a1 a3 a4 S x5))
    refine k_iload (q := 5) C dX0_run_6 rfl ?_
    refine k_bipush (v := 8) C dX0_run_8 rfl ?_
    refine k_icmp_ge (tgt := 42) C dX0_run_10 (by decide) (fun _ => ?_) (fun _ => ?_)
    · refine Dk.loc [0, 1, 2, 3, 4] rfl ?_
      exact kb_X0_run_B42 C hg_begin hg_last hg_end hg_tell _ _
    · refine k_iload (q := 4) C dX0_run_13 rfl ?_
      refine k_if_le (tgt := 42) C dX0_run_15 (by decide) (fun _ => ?_) (fun _ => ?_)
      · refine Dk.loc [0, 1, 2, 3, 4] rfl ?_
        exact kb_X0_run_B42 C hg_begin hg_last hg_end hg_tell _ _
      · refine k_aload_n (q := 0) C dX0_run_18 rfl rfl ?_
        refine k_iload_n (q := 1) C dX0_run_19 rfl rfl ?_
        refine k_iload (q := 4) C dX0_run_20 rfl ?_
        refine k_cVI C ct_X0_bodyAt my_0_bodyAt ml_0_46 rfl ⟨by omega, Nat.le_of_ble_eq_true rfl⟩ (recvC (b := 0) (ci := 0) rfl ⟨rfl, rfl⟩ am_19 rfl rfl) rfl (Nat.le_of_ble_eq_true rfl) dX0_run_22 ⟨Nat.le_refl _, Nat.le_refl _⟩ (fun r1 _ => ?_)
        refine k_if_ne (tgt := 42) C dX0_run_25 (by decide) (fun _ => ?_) (fun _ => ?_)
        · refine Dk.loc [0, 1, 2, 3, 4] rfl ?_
          exact kb_X0_run_B42 C hg_begin hg_last hg_end hg_tell _ _
        · refine k_aload_n (q := 0) C dX0_run_28 rfl rfl ?_
          refine k_iload (q := 4) C dX0_run_29 rfl ?_
          refine k_cVI C ct_X0_kindAbove my_0_kindAbove ml_0_32 rfl ⟨by omega, Nat.le_of_ble_eq_true rfl⟩ (recvC (b := 0) (ci := 0) rfl ⟨rfl, rfl⟩ am_19 rfl rfl) rfl (Nat.le_of_ble_eq_true rfl) dX0_run_31 ⟨Nat.le_refl _, Nat.le_refl _⟩ (fun r2 _ => ?_)
          refine k_istore (lv' := [(5, .int r2), (0, .ref (ad 19)), (1, .int a1), (3, .int a3), (4, .int a4), (6, .int x6)]) C dX0_run_34 (Nat.le_of_ble_eq_true rfl) rfl ?_
          refine k_iinc (q := 5) (v := x6 + 1) (lv' := [(6, .int (x6 + 1)), (5, .int r2), (0, .ref (ad 19)), (1, .int a1), (3, .int a3), (4, .int a4)]) C dX0_run_36 rfl rfl (Nat.le_of_ble_eq_true rfl) rfl ?_
          refine k_goto (tgt := 6) C dX0_run_39 (by decide) ?_
          refine Dk.loc [2, 3, 4, 5, 1, 0] rfl ?_
          exact ih _ _ _
set_option maxRecDepth 20000 in
theorem kw_X0_run {X : GX} {θ : TH} {ad Y : Nat → Nat} {d : Nat} {F : Nat} {Z : Zt} {g : Nat → St → Int32 → Int32 → Int32 → Int32 → Option (Int32 × St)} {S : St} {a1 : Int32} {a2 : Int32} {a3 : Int32} {a4 : Int32} (C : CX (mE X θ (wdC θ ad Y Z S) 7) RX0 cX0_run (some .int) (2 + (d + 1)) 0 0) (hg_begin : ∀ (S : St) (a1 a2 a3 a4 : Int32) (r : Int32 × St), g 1 S a1 a2 a3 a4 = some r → Ct X.2.1 θ yX0_begin cX0_begin 5 (some .int) (2 + d) 0 0 [.ref (ad 19), .int a1, .int a2, .int a3, .int a4] (wdC θ ad Y Z S) (PIS (wdC θ ad Y Z) r)) (hg_last : ∀ (S : St) (a1 a2 a3 a4 : Int32) (r : Int32 × St), g 2 S a1 a2 a3 a4 = some r → Ct X.2.1 θ yX0_last cX0_last 5 (some .int) (2 + d) 0 0 [.ref (ad 19), .int a1, .int a2, .int a3, .int a4] (wdC θ ad Y Z S) (PIS (wdC θ ad Y Z) r)) (hg_end : ∀ (S : St) (a1 a2 a3 a4 : Int32) (r : Int32 × St), g 3 S a1 a2 a3 a4 = some r → Ct X.2.1 θ yX0_end cX0_end 5 (some .int) (2 + d) 0 0 [.ref (ad 19), .int a1, .int a2, .int a3, .int a4] (wdC θ ad Y Z S) (PIS (wdC θ ad Y Z) r)) (hg_tell : ∀ (S : St) (a1 a2 a3 a4 : Int32) (r : Int32 × St), g 4 S a1 a2 a3 a4 = some r → Ct X.2.1 θ yX0_tell cX0_tell 5 (some .int) (2 + d) 0 0 [.ref (ad 19), .int a1, .int a2, .int a3, .int a4] (wdC θ ad Y Z S) (PIS (wdC θ ad Y Z) r)) : Dk (mE X θ (wdC θ ad Y Z S) 7) (mT X θ (wdC θ ad Y Z S) 7 (PIS (wdC θ ad Y Z))) 0 0 (wdC θ ad Y Z S) [(0, .ref (ad 19)), (1, .int a1), (2, .int a2), (3, .int a3), (4, .int a4)] [] 0 (f_X0_run F Z g S a1 a2 a3 a4) := by
  show Dk _ _ _ _ _ _ _ _ (f_X0_run_L6 F Z g a1 a3 a4 F S a2 0)
  refine k_iload_n (q := 2) C dX0_run_0 rfl rfl ?_
  refine k_istore (lv' := [(5, .int a2), (0, .ref (ad 19)), (1, .int a1), (2, .int a2), (3, .int a3), (4, .int a4)]) C dX0_run_1 (Nat.le_of_ble_eq_true rfl) rfl ?_
  refine k_iconst (v := 0) C dX0_run_3 rfl ?_
  refine k_istore (lv' := [(6, .int 0), (5, .int a2), (0, .ref (ad 19)), (1, .int a1), (2, .int a2), (3, .int a3), (4, .int a4)]) C dX0_run_4 (Nat.le_of_ble_eq_true rfl) rfl ?_
  refine Dk.loc [2, 3, 5, 6, 1, 0] rfl ?_
  exact kb_X0_run_L6 C hg_begin hg_last hg_end hg_tell _ _ _ _
theorem ct_X0_run {l : Launch} {θ : TH} {ad Y : Nat → Nat} {S : St} {d : Nat} {F : Nat} {Z : Zt} {g : Nat → St → Int32 → Int32 → Int32 → Int32 → Option (Int32 × St)} {a1 : Int32} {a2 : Int32} {a3 : Int32} {a4 : Int32} (hg_begin : ∀ (S : St) (a1 a2 a3 a4 : Int32) (r : Int32 × St), g 1 S a1 a2 a3 a4 = some r → Ct l θ yX0_begin cX0_begin 5 (some .int) (2 + d) 0 0 [.ref (ad 19), .int a1, .int a2, .int a3, .int a4] (wdC θ ad Y Z S) (PIS (wdC θ ad Y Z) r)) (hg_last : ∀ (S : St) (a1 a2 a3 a4 : Int32) (r : Int32 × St), g 2 S a1 a2 a3 a4 = some r → Ct l θ yX0_last cX0_last 5 (some .int) (2 + d) 0 0 [.ref (ad 19), .int a1, .int a2, .int a3, .int a4] (wdC θ ad Y Z S) (PIS (wdC θ ad Y Z) r)) (hg_end : ∀ (S : St) (a1 a2 a3 a4 : Int32) (r : Int32 × St), g 3 S a1 a2 a3 a4 = some r → Ct l θ yX0_end cX0_end 5 (some .int) (2 + d) 0 0 [.ref (ad 19), .int a1, .int a2, .int a3, .int a4] (wdC θ ad Y Z S) (PIS (wdC θ ad Y Z) r)) (hg_tell : ∀ (S : St) (a1 a2 a3 a4 : Int32) (r : Int32 × St), g 4 S a1 a2 a3 a4 = some r → Ct l θ yX0_tell cX0_tell 5 (some .int) (2 + d) 0 0 [.ref (ad 19), .int a1, .int a2, .int a3, .int a4] (wdC θ ad Y Z S) (PIS (wdC θ ad Y Z) r)) : ∀ r, f_X0_run F Z g S a1 a2 a3 a4 = some r → Ct l θ yX0_run cX0_run 7 (some .int) (2 + (d + 1)) 0 0 [.ref (ad 19), .int a1, .int a2, .int a3, .int a4] (wdC θ ad Y Z S) (PIS (wdC θ ad Y Z) r) :=
  fun r hr => Ct.of (by decide) (Nat.le_of_ble_eq_true rfl) (fun X hX C _ => by subst hX; exact kw_X0_run C hg_begin hg_last hg_end hg_tell r hr)
theorem cr_C_all1 {l : Launch} {θ : TH} {ad Y : Nat → Nat} {F : Nat} {Z : Zt} : ∀ d : Nat, (∀ (S : St) (a1 a2 a3 a4 : Int32) (r : Int32 × St), R_C_1 F Z d 0 S a1 a2 a3 a4 = some r → Ct l θ yX0_run cX0_run 7 (some .int) (2 + d) 0 0 [.ref (ad 19), .int a1, .int a2, .int a3, .int a4] (wdC θ ad Y Z S) (PIS (wdC θ ad Y Z) r)) ∧ (∀ (S : St) (a1 a2 a3 a4 : Int32) (r : Int32 × St), R_C_1 F Z d 1 S a1 a2 a3 a4 = some r → Ct l θ yX0_begin cX0_begin 5 (some .int) (2 + d) 0 0 [.ref (ad 19), .int a1, .int a2, .int a3, .int a4] (wdC θ ad Y Z S) (PIS (wdC θ ad Y Z) r)) ∧ (∀ (S : St) (a1 a2 a3 a4 : Int32) (r : Int32 × St), R_C_1 F Z d 2 S a1 a2 a3 a4 = some r → Ct l θ yX0_last cX0_last 5 (some .int) (2 + d) 0 0 [.ref (ad 19), .int a1, .int a2, .int a3, .int a4] (wdC θ ad Y Z S) (PIS (wdC θ ad Y Z) r)) ∧ (∀ (S : St) (a1 a2 a3 a4 : Int32) (r : Int32 × St), R_C_1 F Z d 3 S a1 a2 a3 a4 = some r → Ct l θ yX0_end cX0_end 5 (some .int) (2 + d) 0 0 [.ref (ad 19), .int a1, .int a2, .int a3, .int a4] (wdC θ ad Y Z S) (PIS (wdC θ ad Y Z) r)) ∧ (∀ (S : St) (a1 a2 a3 a4 : Int32) (r : Int32 × St), R_C_1 F Z d 4 S a1 a2 a3 a4 = some r → Ct l θ yX0_tell cX0_tell 5 (some .int) (2 + d) 0 0 [.ref (ad 19), .int a1, .int a2, .int a3, .int a4] (wdC θ ad Y Z S) (PIS (wdC θ ad Y Z) r)) ∧ (∀ (S : St) (a1 a2 a3 : Int32) (r : Int32 × St), R_C_1 F Z d 5 S a1 a2 a3 0 = some r → Ct l θ yX0_own cX0_own 4 (some .int) (2 + d) 0 0 [.ref (ad 19), .int a1, .int a2, .int a3] (wdC θ ad Y Z S) (PIS (wdC θ ad Y Z) r)) ∧ (∀ (S : St) (a1 a2 a3 a4 : Int32) (r : Int32 × St), R_C_1 F Z d 6 S a1 a2 a3 a4 = some r → Ct l θ yX0_upper cX0_upper 5 (some .int) (2 + d) 0 0 [.ref (ad 19), .int a1, .int a2, .int a3, .int a4] (wdC θ ad Y Z S) (PIS (wdC θ ad Y Z) r)) := by
  intro d
  induction d with
  | zero => exact ⟨fun S _ _ _ _ r h => (by simp [R_C_1] at h), fun S _ _ _ _ r h => (by simp [R_C_1] at h), fun S _ _ _ _ r h => (by simp [R_C_1] at h), fun S _ _ _ _ r h => (by simp [R_C_1] at h), fun S _ _ _ _ r h => (by simp [R_C_1] at h), fun S _ _ _ r h => (by simp [R_C_1] at h), fun S _ _ _ _ r h => (by simp [R_C_1] at h)⟩
  | succ d ih =>
    obtain ⟨i0, i1, i2, i3, i4, i5, i6⟩ := ih
    exact ⟨fun S _ _ _ _ r h => ct_X0_run (F := F) i1 i2 i3 i4 r h, fun S _ _ _ _ r h => ct_X0_begin (F := F) i6 r h, fun S _ _ _ _ r h => ct_X0_last (F := F) i5 i6 r h, fun S _ _ _ _ r h => ct_X0_end (F := F) i6 i5 r h, fun S _ _ _ _ r h => ct_X0_tell (F := F) i5 i6 r h, fun S _ _ _ r h => ct_X0_own (F := F) i0 r h, fun S _ _ _ _ r h => ct_X0_upper (F := F) i0 r h⟩
theorem cr_X0_run {l : Launch} {θ : TH} {ad Y : Nat → Nat} {F d : Nat} {Z : Zt} {S : St} {a1 : Int32} {a2 : Int32} {a3 : Int32} {a4 : Int32} : ∀ (r : Int32 × St), R_C_1 F Z d 0 S a1 a2 a3 a4 = some r → Ct l θ yX0_run cX0_run 7 (some .int) (2 + d) 0 0 [.ref (ad 19), .int a1, .int a2, .int a3, .int a4] (wdC θ ad Y Z S) (PIS (wdC θ ad Y Z) r) := fun r h => (cr_C_all1 (l := l) (θ := θ) (ad := ad) (Y := Y) (F := F) (Z := Z) d).1 S a1 a2 a3 a4 r h
theorem cr_X0_begin {l : Launch} {θ : TH} {ad Y : Nat → Nat} {F d : Nat} {Z : Zt} {S : St} {a1 : Int32} {a2 : Int32} {a3 : Int32} {a4 : Int32} : ∀ (r : Int32 × St), R_C_1 F Z d 1 S a1 a2 a3 a4 = some r → Ct l θ yX0_begin cX0_begin 5 (some .int) (2 + d) 0 0 [.ref (ad 19), .int a1, .int a2, .int a3, .int a4] (wdC θ ad Y Z S) (PIS (wdC θ ad Y Z) r) := fun r h => (cr_C_all1 (l := l) (θ := θ) (ad := ad) (Y := Y) (F := F) (Z := Z) d).2.1 S a1 a2 a3 a4 r h
theorem cr_X0_last {l : Launch} {θ : TH} {ad Y : Nat → Nat} {F d : Nat} {Z : Zt} {S : St} {a1 : Int32} {a2 : Int32} {a3 : Int32} {a4 : Int32} : ∀ (r : Int32 × St), R_C_1 F Z d 2 S a1 a2 a3 a4 = some r → Ct l θ yX0_last cX0_last 5 (some .int) (2 + d) 0 0 [.ref (ad 19), .int a1, .int a2, .int a3, .int a4] (wdC θ ad Y Z S) (PIS (wdC θ ad Y Z) r) := fun r h => (cr_C_all1 (l := l) (θ := θ) (ad := ad) (Y := Y) (F := F) (Z := Z) d).2.2.1 S a1 a2 a3 a4 r h
theorem cr_X0_end {l : Launch} {θ : TH} {ad Y : Nat → Nat} {F d : Nat} {Z : Zt} {S : St} {a1 : Int32} {a2 : Int32} {a3 : Int32} {a4 : Int32} : ∀ (r : Int32 × St), R_C_1 F Z d 3 S a1 a2 a3 a4 = some r → Ct l θ yX0_end cX0_end 5 (some .int) (2 + d) 0 0 [.ref (ad 19), .int a1, .int a2, .int a3, .int a4] (wdC θ ad Y Z S) (PIS (wdC θ ad Y Z) r) := fun r h => (cr_C_all1 (l := l) (θ := θ) (ad := ad) (Y := Y) (F := F) (Z := Z) d).2.2.2.1 S a1 a2 a3 a4 r h
theorem cr_X0_tell {l : Launch} {θ : TH} {ad Y : Nat → Nat} {F d : Nat} {Z : Zt} {S : St} {a1 : Int32} {a2 : Int32} {a3 : Int32} {a4 : Int32} : ∀ (r : Int32 × St), R_C_1 F Z d 4 S a1 a2 a3 a4 = some r → Ct l θ yX0_tell cX0_tell 5 (some .int) (2 + d) 0 0 [.ref (ad 19), .int a1, .int a2, .int a3, .int a4] (wdC θ ad Y Z S) (PIS (wdC θ ad Y Z) r) := fun r h => (cr_C_all1 (l := l) (θ := θ) (ad := ad) (Y := Y) (F := F) (Z := Z) d).2.2.2.2.1 S a1 a2 a3 a4 r h
theorem cr_X0_own {l : Launch} {θ : TH} {ad Y : Nat → Nat} {F d : Nat} {Z : Zt} {S : St} {a1 : Int32} {a2 : Int32} {a3 : Int32} : ∀ (r : Int32 × St), R_C_1 F Z d 5 S a1 a2 a3 0 = some r → Ct l θ yX0_own cX0_own 4 (some .int) (2 + d) 0 0 [.ref (ad 19), .int a1, .int a2, .int a3] (wdC θ ad Y Z S) (PIS (wdC θ ad Y Z) r) := fun r h => (cr_C_all1 (l := l) (θ := θ) (ad := ad) (Y := Y) (F := F) (Z := Z) d).2.2.2.2.2.1 S a1 a2 a3 r h
theorem cr_X0_upper {l : Launch} {θ : TH} {ad Y : Nat → Nat} {F d : Nat} {Z : Zt} {S : St} {a1 : Int32} {a2 : Int32} {a3 : Int32} {a4 : Int32} : ∀ (r : Int32 × St), R_C_1 F Z d 6 S a1 a2 a3 a4 = some r → Ct l θ yX0_upper cX0_upper 5 (some .int) (2 + d) 0 0 [.ref (ad 19), .int a1, .int a2, .int a3, .int a4] (wdC θ ad Y Z S) (PIS (wdC θ ad Y Z) r) := fun r h => (cr_C_all1 (l := l) (θ := θ) (ad := ad) (Y := Y) (F := F) (Z := Z) d).2.2.2.2.2.2 S a1 a2 a3 a4 r h
set_option maxRecDepth 20000 in
theorem kw_X0_play {X : GX} {θ : TH} {ad Y : Nat → Nat} {F : Nat} {Z : Zt} {S : St} {a1 : Int32} {a2 : Int32} {a3 : Int32} (C : CX (mE X θ (wdC θ ad Y Z S) 4) RX0 cX0_play (some .int) 63 0 0)  : Dk (mE X θ (wdC θ ad Y Z S) 4) (mT X θ (wdC θ ad Y Z S) 4 (PIS (wdC θ ad Y Z))) 0 0 (wdC θ ad Y Z S) [(0, .ref (ad 19)), (1, .int a1), (2, .int a2), (3, .int a3)] [] 0 (f_X0_play F Z S a1 a2 a3) := by
  show Dk _ _ _ _ _ _ _ _ ((f_X0_has Z (sf S 3 0) a1).bind fun r1 => (if r1 = 0 then some ((0 : Int32), sf S 3 0) else if a2 < 0 then some ((0 : Int32), sf S 3 0) else if a2 < 4 then (f_X0_kindOf Z (sf (sf S 3 0) 4 a1) a1).bind fun r2 => (R_C_1 F Z 60 0 (sf (sf S 3 0) 4 a1) a2 r2 a3 0).bind fun r3 => some (r3.1, r3.2) else some ((0 : Int32), sf S 3 0)))
  refine k_aload_n (q := 0) C dX0_play_0 rfl rfl ?_
  refine k_iconst (v := 0) C dX0_play_1 rfl ?_
  refine c_puti (b := 0) (ci := 0) (kf := 3) (N := 5) C rfl ⟨rfl, rfl⟩ am_19 rfl lay_0 tyX0 tyX0_ok nmX0 kk_0_3 fl_0_22 pf_0_3 dX0_play_2 ?_
  refine k_aload_n (q := 0) C dX0_play_5 rfl rfl ?_
  refine k_iload_n (q := 1) C dX0_play_6 rfl rfl ?_
  refine k_cVI C ct_X0_has my_0_has ml_0_28 rfl ⟨Nat.le_of_ble_eq_true rfl, Nat.le_of_ble_eq_true rfl⟩ (recvC (b := 0) (ci := 0) rfl ⟨rfl, rfl⟩ am_19 rfl rfl) rfl (Nat.le_of_ble_eq_true rfl) dX0_play_7 ⟨Nat.le_refl _, Nat.le_refl _⟩ (fun r1 _ => ?_)
  refine k_if_eq (tgt := 22) C dX0_play_10 (by decide) (fun _ => ?_) (fun _ => ?_)
  · refine k_iconst (v := 0) C dX0_play_22 rfl ?_
    exact k_iret C rfl ⟨rfl, rfl⟩ dX0_play_23
  · refine k_iload_n (q := 2) C dX0_play_13 rfl rfl ?_
    refine k_if_lt (tgt := 22) C dX0_play_14 (by decide) (fun _ => ?_) (fun _ => ?_)
    · refine k_iconst (v := 0) C dX0_play_22 rfl ?_
      exact k_iret C rfl ⟨rfl, rfl⟩ dX0_play_23
    · refine k_iload_n (q := 2) C dX0_play_17 rfl rfl ?_
      refine k_iconst (v := 4) C dX0_play_18 rfl ?_
      refine k_icmp_lt (tgt := 24) C dX0_play_19 (by decide) (fun _ => ?_) (fun _ => ?_)
      · refine k_aload_n (q := 0) C dX0_play_24 rfl rfl ?_
        refine k_iload_n (q := 1) C dX0_play_25 rfl rfl ?_
        refine c_puti (b := 0) (ci := 0) (kf := 4) (N := 5) C rfl ⟨rfl, rfl⟩ am_19 rfl lay_0 tyX0 tyX0_ok nmX0 kk_0_4 fl_0_25 pf_0_4 dX0_play_26 ?_
        refine k_aload_n (q := 0) C dX0_play_29 rfl rfl ?_
        refine k_iload_n (q := 2) C dX0_play_30 rfl rfl ?_
        refine k_aload_n (q := 0) C dX0_play_31 rfl rfl ?_
        refine k_iload_n (q := 1) C dX0_play_32 rfl rfl ?_
        refine k_cVI C ct_X0_kindOf my_0_kindOf ml_0_39 rfl ⟨Nat.le_of_ble_eq_true rfl, Nat.le_of_ble_eq_true rfl⟩ (recvC (b := 0) (ci := 0) rfl ⟨rfl, rfl⟩ am_19 rfl rfl) rfl (Nat.le_of_ble_eq_true rfl) dX0_play_33 ⟨Nat.le_refl _, Nat.le_refl _⟩ (fun r2 _ => ?_)
        refine k_iload_n (q := 3) C dX0_play_36 rfl rfl ?_
        refine k_iconst (v := 0) C dX0_play_37 rfl ?_
        refine k_cVI C (cr_X0_run (d := 60)) my_0_run ml_0_42 rfl ⟨Nat.le_of_ble_eq_true rfl, Nat.le_of_ble_eq_true rfl⟩ (recvC (b := 0) (ci := 0) rfl ⟨rfl, rfl⟩ am_19 rfl rfl) rfl (Nat.le_of_ble_eq_true rfl) dX0_play_38 ⟨Nat.le_refl _, Nat.le_refl _⟩ (fun r3 _ => ?_)
        exact k_iret C rfl ⟨rfl, rfl⟩ dX0_play_41
      · refine k_iconst (v := 0) C dX0_play_22 rfl ?_
        exact k_iret C rfl ⟨rfl, rfl⟩ dX0_play_23
theorem ct_X0_play {l : Launch} {θ : TH} {ad Y : Nat → Nat} {S : St} {F : Nat} {Z : Zt} {a1 : Int32} {a2 : Int32} {a3 : Int32}  : ∀ r, f_X0_play F Z S a1 a2 a3 = some r → Ct l θ yX0_play cX0_play 4 (some .int) 63 0 0 [.ref (ad 19), .int a1, .int a2, .int a3] (wdC θ ad Y Z S) (PIS (wdC θ ad Y Z) r) :=
  fun r hr => Ct.of (by decide +kernel) (Nat.le_of_ble_eq_true rfl) (fun X _ C _ => kw_X0_play C  r hr)
set_option maxRecDepth 20000 in
theorem kw_X1_size {X : GX} {θ : TH} {ad Y : Nat → Nat} {Z : Zt} {S : St}  (C : CX (mE X θ (wdC θ ad Y Z S) 1) RX1 cX1_size (some .int) 0 0 0)  : Dk (mE X θ (wdC θ ad Y Z S) 1) (mT X θ (wdC θ ad Y Z S) 1 (PI (wdC θ ad Y Z S))) 0 0 (wdC θ ad Y Z S) [(0, .ref (ad 39))] [] 0 (f_X1_size Z S) := by
  show Dk _ _ _ _ _ _ _ _ (some (S.1 24))
  refine k_aload_n (q := 0) C dX1_size_0 rfl rfl ?_
  refine c_get (b := 20) (ci := 1) (kf := 4) (N := 5) (v := .int (S.1 24)) C rfl ⟨rfl, rfl⟩ am_39 rfl lay_1 kk_1_4 fl_1_24 rfl dX1_size_1 ?_
  exact k_iret C rfl ⟨rfl, rfl⟩ dX1_size_4
theorem ct_X1_size {l : Launch} {θ : TH} {ad Y : Nat → Nat} {S : St} {Z : Zt}   : ∀ r, f_X1_size Z S = some r → Ct l θ yX1_size cX1_size 1 (some .int) 0 0 0 [.ref (ad 39)] (wdC θ ad Y Z S) (PI (wdC θ ad Y Z S) r) :=
  fun r hr => Ct.of (by decide +kernel) (Nat.le_of_ble_eq_true rfl) (fun X _ C _ => kw_X1_size C  r hr)
set_option maxRecDepth 20000 in
theorem kw_X1_has {X : GX} {θ : TH} {ad Y : Nat → Nat} {Z : Zt} {S : St} {a1 : Int32} (C : CX (mE X θ (wdC θ ad Y Z S) 2) RX1 cX1_has (some .boolean) 0 0 0)  : Dk (mE X θ (wdC θ ad Y Z S) 2) (mT X θ (wdC θ ad Y Z S) 2 (PI (wdC θ ad Y Z S))) 0 0 (wdC θ ad Y Z S) [(0, .ref (ad 39)), (1, .int a1)] [] 0 (f_X1_has Z S a1) := by
  show Dk _ _ _ _ _ _ _ _ (if a1 < 0 then some ((0 : Int32)) else if (S.1 24) ≤ a1 then some ((0 : Int32)) else if (12 : Int32) ≤ a1 then some ((0 : Int32)) else some ((1 : Int32)))
  refine k_iload_n (q := 1) C dX1_has_0 rfl rfl ?_
  refine k_if_lt (tgt := 22) C dX1_has_1 (by decide) (fun _ => ?_) (fun _ => ?_)
  · refine k_iconst (v := 0) C dX1_has_22 rfl ?_
    exact k_iret C rfl ⟨rfl, rfl⟩ dX1_has_23
  · refine k_iload_n (q := 1) C dX1_has_4 rfl rfl ?_
    refine k_aload_n (q := 0) C dX1_has_5 rfl rfl ?_
    refine c_get (b := 20) (ci := 1) (kf := 4) (N := 5) (v := .int (S.1 24)) C rfl ⟨rfl, rfl⟩ am_39 rfl lay_1 kk_1_4 fl_1_24 rfl dX1_has_6 ?_
    refine k_icmp_ge (tgt := 22) C dX1_has_9 (by decide) (fun _ => ?_) (fun _ => ?_)
    · refine k_iconst (v := 0) C dX1_has_22 rfl ?_
      exact k_iret C rfl ⟨rfl, rfl⟩ dX1_has_23
    · refine k_iload_n (q := 1) C dX1_has_12 rfl rfl ?_
      refine k_bipush (v := 12) C dX1_has_13 rfl ?_
      refine k_icmp_ge (tgt := 22) C dX1_has_15 (by decide) (fun _ => ?_) (fun _ => ?_)
      · refine k_iconst (v := 0) C dX1_has_22 rfl ?_
        exact k_iret C rfl ⟨rfl, rfl⟩ dX1_has_23
      · refine k_iconst (v := 1) C dX1_has_18 rfl ?_
        refine k_goto (tgt := 23) C dX1_has_19 (by decide) ?_
        exact k_iret C rfl ⟨rfl, rfl⟩ dX1_has_23
theorem ct_X1_has {l : Launch} {θ : TH} {ad Y : Nat → Nat} {S : St} {Z : Zt} {a1 : Int32}  : ∀ r, f_X1_has Z S a1 = some r → Ct l θ yX1_has cX1_has 2 (some .boolean) 0 0 0 [.ref (ad 39), .int a1] (wdC θ ad Y Z S) (PI (wdC θ ad Y Z S) r) :=
  fun r hr => Ct.of (by decide +kernel) (Nat.le_of_ble_eq_true rfl) (fun X _ C _ => kw_X1_has C  r hr)
set_option maxRecDepth 20000 in
theorem kw_X1_isSo {X : GX} {θ : TH} {ws : va_W} {o : Nat}   {a1 : Int32} {a2 : Int32} {a3 : Int32} {a4 : Int32} (C : CX (mE X θ (ws) 5) RX1 cX1_isSo (some .boolean) 0 0 0)  : Dk (mE X θ (ws) 5) (mT X θ (ws) 5 (PI ws)) 0 0 ws [(0, .ref o), (1, .int a1), (2, .int a2), (3, .int a3), (4, .int a4)] [] 0 (f_X1_isSo a1 a2 a3 a4) := by
  show Dk _ _ _ _ _ _ _ _ (if a1 < 0 then some ((0 : Int32)) else if (9 : Int32) < a1 then some ((0 : Int32)) else if a3 < 0 then some ((0 : Int32)) else if (9 : Int32) < a3 then some ((0 : Int32)) else if a2 < 1 then some ((0 : Int32)) else if (48 : Int32) < a2 then some ((0 : Int32)) else if a4 < 0 then some ((0 : Int32)) else if (3 : Int32) < a4 then some ((0 : Int32)) else some ((1 : Int32)))
  refine k_iload_n (q := 1) C dX1_isSo_0 rfl rfl ?_
  refine k_if_lt (tgt := 46) C dX1_isSo_1 (by decide) (fun _ => ?_) (fun _ => ?_)
  · refine k_iconst (v := 0) C dX1_isSo_46 rfl ?_
    exact k_iret C rfl ⟨rfl, rfl⟩ dX1_isSo_47
  · refine k_iload_n (q := 1) C dX1_isSo_4 rfl rfl ?_
    refine k_bipush (v := 9) C dX1_isSo_5 rfl ?_
    refine k_icmp_gt (tgt := 46) C dX1_isSo_7 (by decide) (fun _ => ?_) (fun _ => ?_)
    · refine k_iconst (v := 0) C dX1_isSo_46 rfl ?_
      exact k_iret C rfl ⟨rfl, rfl⟩ dX1_isSo_47
    · refine k_iload_n (q := 3) C dX1_isSo_10 rfl rfl ?_
      refine k_if_lt (tgt := 46) C dX1_isSo_11 (by decide) (fun _ => ?_) (fun _ => ?_)
      · refine k_iconst (v := 0) C dX1_isSo_46 rfl ?_
        exact k_iret C rfl ⟨rfl, rfl⟩ dX1_isSo_47
      · refine k_iload_n (q := 3) C dX1_isSo_14 rfl rfl ?_
        refine k_bipush (v := 9) C dX1_isSo_15 rfl ?_
        refine k_icmp_gt (tgt := 46) C dX1_isSo_17 (by decide) (fun _ => ?_) (fun _ => ?_)
        · refine k_iconst (v := 0) C dX1_isSo_46 rfl ?_
          exact k_iret C rfl ⟨rfl, rfl⟩ dX1_isSo_47
        · refine k_iload_n (q := 2) C dX1_isSo_20 rfl rfl ?_
          refine k_iconst (v := 1) C dX1_isSo_21 rfl ?_
          refine k_icmp_lt (tgt := 46) C dX1_isSo_22 (by decide) (fun _ => ?_) (fun _ => ?_)
          · refine k_iconst (v := 0) C dX1_isSo_46 rfl ?_
            exact k_iret C rfl ⟨rfl, rfl⟩ dX1_isSo_47
          · refine k_iload_n (q := 2) C dX1_isSo_25 rfl rfl ?_
            refine k_bipush (v := 48) C dX1_isSo_26 rfl ?_
            refine k_icmp_gt (tgt := 46) C dX1_isSo_28 (by decide) (fun _ => ?_) (fun _ => ?_)
            · refine k_iconst (v := 0) C dX1_isSo_46 rfl ?_
              exact k_iret C rfl ⟨rfl, rfl⟩ dX1_isSo_47
            · refine k_iload (q := 4) C dX1_isSo_31 rfl ?_
              refine k_if_lt (tgt := 46) C dX1_isSo_33 (by decide) (fun _ => ?_) (fun _ => ?_)
              · refine k_iconst (v := 0) C dX1_isSo_46 rfl ?_
                exact k_iret C rfl ⟨rfl, rfl⟩ dX1_isSo_47
              · refine k_iload (q := 4) C dX1_isSo_36 rfl ?_
                refine k_iconst (v := 3) C dX1_isSo_38 rfl ?_
                refine k_icmp_gt (tgt := 46) C dX1_isSo_39 (by decide) (fun _ => ?_) (fun _ => ?_)
                · refine k_iconst (v := 0) C dX1_isSo_46 rfl ?_
                  exact k_iret C rfl ⟨rfl, rfl⟩ dX1_isSo_47
                · refine k_iconst (v := 1) C dX1_isSo_42 rfl ?_
                  refine k_goto (tgt := 47) C dX1_isSo_43 (by decide) ?_
                  exact k_iret C rfl ⟨rfl, rfl⟩ dX1_isSo_47
theorem ct_X1_isSo {l : Launch} {θ : TH} {ws : va_W} {o : Nat}  {a1 : Int32} {a2 : Int32} {a3 : Int32} {a4 : Int32}  : ∀ r, f_X1_isSo a1 a2 a3 a4 = some r → Ct l θ yX1_isSo cX1_isSo 5 (some .boolean) 0 0 0 [.ref o, .int a1, .int a2, .int a3, .int a4] (ws) (PI ws r) :=
  fun r hr => Ct.of (by decide +kernel) (Nat.le_of_ble_eq_true rfl) (fun X _ C _ => kw_X1_isSo C  r hr)
set_option maxRecDepth 20000 in
theorem kw_X1_add {X : GX} {θ : TH} {ad Y : Nat → Nat} {Z : Zt} {S : St} {a1 : Int32} {a2 : Int32} {a3 : Int32} {a4 : Int32} (C : CX (mE X θ (wdC θ ad Y Z S) 5) RX1 cX1_add (some .int) 0 0 0)  : Dk (mE X θ (wdC θ ad Y Z S) 5) (mT X θ (wdC θ ad Y Z S) 5 (PIS (wdC θ ad Y Z))) 0 0 (wdC θ ad Y Z S) [(0, .ref (ad 39)), (1, .int a1), (2, .int a2), (3, .int a3), (4, .int a4)] [] 0 (f_X1_add Z S a1 a2 a3 a4) := by
  show Dk _ _ _ _ _ _ _ _ (if (S.1 24) < 12 then chk (inr (S.1 24) 12) (chk (inr (S.1 24) 12) (chk (inr (S.1 24) 12) (chk (inr (S.1 24) 12) (some (S.1 24, sf (sa (sa (sa (sa S 20 (S.1 24).toNatClampNeg a1) 21 (S.1 24).toNatClampNeg a2) 22 (S.1 24).toNatClampNeg a3) 23 (S.1 24).toNatClampNeg a4) 24 ((S.1 24) + 1)))))) else some ((-3 : Int32), S))
  refine k_aload_n (q := 0) C dX1_add_0 rfl rfl ?_
  refine c_get (b := 20) (ci := 1) (kf := 4) (N := 5) (v := .int (S.1 24)) C rfl ⟨rfl, rfl⟩ am_39 rfl lay_1 kk_1_4 fl_1_24 rfl dX1_add_1 ?_
  refine k_bipush (v := 12) C dX1_add_4 rfl ?_
  refine k_icmp_lt (tgt := 12) C dX1_add_6 (by decide) (fun _ => ?_) (fun _ => ?_)
  · refine k_aload_n (q := 0) C dX1_add_12 rfl rfl ?_
    refine c_get (b := 20) (ci := 1) (kf := 0) (N := 5) C rfl ⟨rfl, rfl⟩ am_39 rfl lay_1 kk_1_0 fl_1_9 rfl dX1_add_13 ?_
    refine k_aload_n (q := 0) C dX1_add_16 rfl rfl ?_
    refine c_get (b := 20) (ci := 1) (kf := 4) (N := 5) (v := .int (S.1 24)) C rfl ⟨rfl, rfl⟩ am_39 rfl lay_1 kk_1_4 fl_1_24 rfl dX1_add_17 ?_
    refine k_iload_n (q := 1) C dX1_add_20 rfl rfl ?_
    refine c_iast (i := 20) C rfl am_20 ak_20 rfl dX1_add_21 ?_
    refine k_aload_n (q := 0) C dX1_add_22 rfl rfl ?_
    refine c_get (b := 20) (ci := 1) (kf := 1) (N := 5) C rfl ⟨rfl, rfl⟩ am_39 rfl lay_1 kk_1_1 fl_1_15 rfl dX1_add_23 ?_
    refine k_aload_n (q := 0) C dX1_add_26 rfl rfl ?_
    refine c_get (b := 20) (ci := 1) (kf := 4) (N := 5) (v := .int (S.1 24)) C rfl ⟨rfl, rfl⟩ am_39 rfl lay_1 kk_1_4 fl_1_24 rfl dX1_add_27 ?_
    refine k_iload_n (q := 2) C dX1_add_30 rfl rfl ?_
    refine c_iast (i := 21) C rfl am_21 ak_21 rfl dX1_add_31 ?_
    refine k_aload_n (q := 0) C dX1_add_32 rfl rfl ?_
    refine c_get (b := 20) (ci := 1) (kf := 2) (N := 5) C rfl ⟨rfl, rfl⟩ am_39 rfl lay_1 kk_1_2 fl_1_18 rfl dX1_add_33 ?_
    refine k_aload_n (q := 0) C dX1_add_36 rfl rfl ?_
    refine c_get (b := 20) (ci := 1) (kf := 4) (N := 5) (v := .int (S.1 24)) C rfl ⟨rfl, rfl⟩ am_39 rfl lay_1 kk_1_4 fl_1_24 rfl dX1_add_37 ?_
    refine k_iload_n (q := 3) C dX1_add_40 rfl rfl ?_
    refine c_iast (i := 22) C rfl am_22 ak_22 rfl dX1_add_41 ?_
    refine k_aload_n (q := 0) C dX1_add_42 rfl rfl ?_
    refine c_get (b := 20) (ci := 1) (kf := 3) (N := 5) C rfl ⟨rfl, rfl⟩ am_39 rfl lay_1 kk_1_3 fl_1_21 rfl dX1_add_43 ?_
    refine k_aload_n (q := 0) C dX1_add_46 rfl rfl ?_
    refine c_get (b := 20) (ci := 1) (kf := 4) (N := 5) (v := .int (S.1 24)) C rfl ⟨rfl, rfl⟩ am_39 rfl lay_1 kk_1_4 fl_1_24 rfl dX1_add_47 ?_
    refine k_iload (q := 4) C dX1_add_50 rfl ?_
    refine c_iast (i := 23) C rfl am_23 ak_23 rfl dX1_add_52 ?_
    refine k_aload_n (q := 0) C dX1_add_53 rfl rfl ?_
    refine k_dup C dX1_add_54 rfl ?_
    refine c_get (b := 20) (ci := 1) (kf := 4) (N := 5) (v := .int (S.1 24)) C rfl ⟨rfl, rfl⟩ am_39 rfl lay_1 kk_1_4 fl_1_24 rfl dX1_add_55 ?_
    refine k_dup_x1 C dX1_add_58 rfl rfl ?_
    refine k_iconst (v := 1) C dX1_add_59 rfl ?_
    refine k_iadd C dX1_add_60 ?_
    refine c_puti (b := 20) (ci := 1) (kf := 4) (N := 5) C rfl ⟨rfl, rfl⟩ am_39 rfl lay_1 tyX1 tyX1_ok nmX1 kk_1_4 fl_1_24 pf_1_4 dX1_add_61 ?_
    exact k_iret C rfl ⟨rfl, rfl⟩ dX1_add_64
  · refine k_bipush (v := (-3)) C dX1_add_9 rfl ?_
    exact k_iret C rfl ⟨rfl, rfl⟩ dX1_add_11
theorem ct_X1_add {l : Launch} {θ : TH} {ad Y : Nat → Nat} {S : St} {Z : Zt} {a1 : Int32} {a2 : Int32} {a3 : Int32} {a4 : Int32}  : ∀ r, f_X1_add Z S a1 a2 a3 a4 = some r → Ct l θ yX1_add cX1_add 5 (some .int) 0 0 0 [.ref (ad 39), .int a1, .int a2, .int a3, .int a4] (wdC θ ad Y Z S) (PIS (wdC θ ad Y Z) r) :=
  fun r hr => Ct.of (by decide +kernel) (Nat.le_of_ble_eq_true rfl) (fun X _ C _ => kw_X1_add C  r hr)
set_option maxRecDepth 20000 in
theorem kw_X1_told {X : GX} {θ : TH} {ad Y : Nat → Nat} {Z : Zt} {S : St} {a1 : Int32} {a2 : Int32} (C : CX (mE X θ (wdC θ ad Y Z S) 3) RX1 cX1_told (some .int) 1 0 0)  : Dk (mE X θ (wdC θ ad Y Z S) 3) (mT X θ (wdC θ ad Y Z S) 3 (PI (wdC θ ad Y Z S))) 0 0 (wdC θ ad Y Z S) [(0, .ref (ad 39)), (1, .int a1), (2, .int a2)] [] 0 (f_X1_told Z S a1 a2) := by
  show Dk _ _ _ _ _ _ _ _ ((f_X1_has Z S a1).bind fun r1 => (if r1 = 0 then some ((0 : Int32)) else if a2 = 0 then chk (inr a1 12) (some (S.2.1 20 (a1).toNatClampNeg)) else if a2 = 1 then chk (inr a1 12) (some (S.2.1 21 (a1).toNatClampNeg)) else if a2 = 2 then chk (inr a1 12) (some (S.2.1 22 (a1).toNatClampNeg)) else chk (inr a1 12) (some (S.2.1 23 (a1).toNatClampNeg))))
  refine k_aload_n (q := 0) C dX1_told_0 rfl rfl ?_
  refine k_iload_n (q := 1) C dX1_told_1 rfl rfl ?_
  refine k_cVI C ct_X1_has my_1_has ml_1_32 rfl ⟨Nat.le_of_ble_eq_true rfl, Nat.le_of_ble_eq_true rfl⟩ (recvC (b := 20) (ci := 1) rfl ⟨rfl, rfl⟩ am_39 rfl rfl) rfl (Nat.le_of_ble_eq_true rfl) dX1_told_2 ⟨Nat.le_refl _, Nat.le_refl _⟩ (fun r1 _ => ?_)
  refine k_if_ne (tgt := 10) C dX1_told_5 (by decide) (fun _ => ?_) (fun _ => ?_)
  · refine k_iload_n (q := 2) C dX1_told_10 rfl rfl ?_
    refine k_case (c := 0) (fun q1 => ?_) (fun q1 => ?_)
    · refine k_tableIn (off := 25) (tgt := 36) C dX1_told_11 (by rw [q1]; decide) (by rw [q1]; decide) (by rw [q1]; rfl) (by decide) ?_
      refine k_aload_n (q := 0) C dX1_told_36 rfl rfl ?_
      refine c_get (b := 20) (ci := 1) (kf := 0) (N := 5) C rfl ⟨rfl, rfl⟩ am_39 rfl lay_1 kk_1_0 fl_1_9 rfl dX1_told_37 ?_
      refine k_iload_n (q := 1) C dX1_told_40 rfl rfl ?_
      refine c_iald (i := 20) (v := S.2.1 20 (a1).toNatClampNeg) C rfl am_20 ak_20 rfl rfl dX1_told_41 ?_
      exact k_iret C rfl ⟨rfl, rfl⟩ dX1_told_42
    refine k_case (c := 1) (fun q2 => ?_) (fun q2 => ?_)
    · refine k_tableIn (off := 32) (tgt := 43) C dX1_told_11 (by rw [q2]; decide) (by rw [q2]; decide) (by rw [q2]; rfl) (by decide) ?_
      refine k_aload_n (q := 0) C dX1_told_43 rfl rfl ?_
      refine c_get (b := 20) (ci := 1) (kf := 1) (N := 5) C rfl ⟨rfl, rfl⟩ am_39 rfl lay_1 kk_1_1 fl_1_15 rfl dX1_told_44 ?_
      refine k_iload_n (q := 1) C dX1_told_47 rfl rfl ?_
      refine c_iald (i := 21) (v := S.2.1 21 (a1).toNatClampNeg) C rfl am_21 ak_21 rfl rfl dX1_told_48 ?_
      exact k_iret C rfl ⟨rfl, rfl⟩ dX1_told_49
    refine k_case (c := 2) (fun q3 => ?_) (fun q3 => ?_)
    · refine k_tableIn (off := 39) (tgt := 50) C dX1_told_11 (by rw [q3]; decide) (by rw [q3]; decide) (by rw [q3]; rfl) (by decide) ?_
      refine k_aload_n (q := 0) C dX1_told_50 rfl rfl ?_
      refine c_get (b := 20) (ci := 1) (kf := 2) (N := 5) C rfl ⟨rfl, rfl⟩ am_39 rfl lay_1 kk_1_2 fl_1_18 rfl dX1_told_51 ?_
      refine k_iload_n (q := 1) C dX1_told_54 rfl rfl ?_
      refine c_iald (i := 22) (v := S.2.1 22 (a1).toNatClampNeg) C rfl am_22 ak_22 rfl rfl dX1_told_55 ?_
      exact k_iret C rfl ⟨rfl, rfl⟩ dX1_told_56
    refine k_tableOut (tgt := 57) C dX1_told_11 (by have zq1 := i32ne q1 (z := 0) rfl; have zq2 := i32ne q2 (z := 1) rfl; have zq3 := i32ne q3 (z := 2) rfl; omega) (by decide) ?_
    refine k_aload_n (q := 0) C dX1_told_57 rfl rfl ?_
    refine c_get (b := 20) (ci := 1) (kf := 3) (N := 5) C rfl ⟨rfl, rfl⟩ am_39 rfl lay_1 kk_1_3 fl_1_21 rfl dX1_told_58 ?_
    refine k_iload_n (q := 1) C dX1_told_61 rfl rfl ?_
    refine c_iald (i := 23) (v := S.2.1 23 (a1).toNatClampNeg) C rfl am_23 ak_23 rfl rfl dX1_told_62 ?_
    exact k_iret C rfl ⟨rfl, rfl⟩ dX1_told_63
  · refine k_iconst (v := 0) C dX1_told_8 rfl ?_
    exact k_iret C rfl ⟨rfl, rfl⟩ dX1_told_9
theorem ct_X1_told {l : Launch} {θ : TH} {ad Y : Nat → Nat} {S : St} {Z : Zt} {a1 : Int32} {a2 : Int32}  : ∀ r, f_X1_told Z S a1 a2 = some r → Ct l θ yX1_told cX1_told 3 (some .int) 1 0 0 [.ref (ad 39), .int a1, .int a2] (wdC θ ad Y Z S) (PI (wdC θ ad Y Z S) r) :=
  fun r hr => Ct.of (by decide +kernel) (Nat.le_of_ble_eq_true rfl) (fun X _ C _ => kw_X1_told C  r hr)
set_option maxRecDepth 20000 in
theorem kw_X1_hoursOf {X : GX} {θ : TH} {ad Y : Nat → Nat} {Z : Zt} {S : St} {a1 : Int32} (C : CX (mE X θ (wdC θ ad Y Z S) 2) RX1 cX1_hoursOf (some .int) 2 0 0)  : Dk (mE X θ (wdC θ ad Y Z S) 2) (mT X θ (wdC θ ad Y Z S) 2 (PI (wdC θ ad Y Z S))) 0 0 (wdC θ ad Y Z S) [(0, .ref (ad 39)), (1, .int a1)] [] 0 (f_X1_hoursOf Z S a1) := by
  show Dk _ _ _ _ _ _ _ _ ((f_X1_told Z S a1 1).bind fun r1 => some r1)
  refine k_aload_n (q := 0) C dX1_hoursOf_0 rfl rfl ?_
  refine k_iload_n (q := 1) C dX1_hoursOf_1 rfl rfl ?_
  refine k_iconst (v := 1) C dX1_hoursOf_2 rfl ?_
  refine k_cVI C ct_X1_told my_1_told ml_1_28 rfl ⟨Nat.le_of_ble_eq_true rfl, Nat.le_of_ble_eq_true rfl⟩ (recvC (b := 20) (ci := 1) rfl ⟨rfl, rfl⟩ am_39 rfl rfl) rfl (Nat.le_of_ble_eq_true rfl) dX1_hoursOf_3 ⟨Nat.le_refl _, Nat.le_refl _⟩ (fun r1 _ => ?_)
  exact k_iret C rfl ⟨rfl, rfl⟩ dX1_hoursOf_6
theorem ct_X1_hoursOf {l : Launch} {θ : TH} {ad Y : Nat → Nat} {S : St} {Z : Zt} {a1 : Int32}  : ∀ r, f_X1_hoursOf Z S a1 = some r → Ct l θ yX1_hoursOf cX1_hoursOf 2 (some .int) 2 0 0 [.ref (ad 39), .int a1] (wdC θ ad Y Z S) (PI (wdC θ ad Y Z S) r) :=
  fun r hr => Ct.of (by decide +kernel) (Nat.le_of_ble_eq_true rfl) (fun X _ C _ => kw_X1_hoursOf C  r hr)
set_option maxRecDepth 20000 in
theorem kw_X1_setHours {X : GX} {θ : TH} {ad Y : Nat → Nat} {Z : Zt} {S : St} {a1 : Int32} {a2 : Int32} (C : CX (mE X θ (wdC θ ad Y Z S) 3) RX1 cX1_setHours none 1 0 0)  : Dk (mE X θ (wdC θ ad Y Z S) 3) (mT X θ (wdC θ ad Y Z S) 3 (PVS (wdC θ ad Y Z))) 0 0 (wdC θ ad Y Z S) [(0, .ref (ad 39)), (1, .int a1), (2, .int a2)] [] 0 (f_X1_setHours Z S a1 a2) := by
  show Dk _ _ _ _ _ _ _ _ ((f_X1_has Z S a1).bind fun r1 => (if r1 = 0 then some S else chk (inr a1 12) (some (sa S 21 (a1).toNatClampNeg a2))))
  refine k_aload_n (q := 0) C dX1_setHours_0 rfl rfl ?_
  refine k_iload_n (q := 1) C dX1_setHours_1 rfl rfl ?_
  refine k_cVI C ct_X1_has my_1_has ml_1_32 rfl ⟨Nat.le_of_ble_eq_true rfl, Nat.le_of_ble_eq_true rfl⟩ (recvC (b := 20) (ci := 1) rfl ⟨rfl, rfl⟩ am_39 rfl rfl) rfl (Nat.le_of_ble_eq_true rfl) dX1_setHours_2 ⟨Nat.le_refl _, Nat.le_refl _⟩ (fun r1 _ => ?_)
  refine k_if_eq (tgt := 15) C dX1_setHours_5 (by decide) (fun _ => ?_) (fun _ => ?_)
  · exact k_vret C ⟨rfl, rfl⟩ dX1_setHours_15
  · refine k_aload_n (q := 0) C dX1_setHours_8 rfl rfl ?_
    refine c_get (b := 20) (ci := 1) (kf := 1) (N := 5) C rfl ⟨rfl, rfl⟩ am_39 rfl lay_1 kk_1_1 fl_1_15 rfl dX1_setHours_9 ?_
    refine k_iload_n (q := 1) C dX1_setHours_12 rfl rfl ?_
    refine k_iload_n (q := 2) C dX1_setHours_13 rfl rfl ?_
    refine c_iast (i := 21) C rfl am_21 ak_21 rfl dX1_setHours_14 ?_
    exact k_vret C ⟨rfl, rfl⟩ dX1_setHours_15
theorem ct_X1_setHours {l : Launch} {θ : TH} {ad Y : Nat → Nat} {S : St} {Z : Zt} {a1 : Int32} {a2 : Int32}  : ∀ r, f_X1_setHours Z S a1 a2 = some r → Ct l θ yX1_setHours cX1_setHours 3 none 1 0 0 [.ref (ad 39), .int a1, .int a2] (wdC θ ad Y Z S) (PVS (wdC θ ad Y Z) r) :=
  fun r hr => Ct.of (by decide +kernel) (Nat.le_of_ble_eq_true rfl) (fun X _ C _ => kw_X1_setHours C  r hr)
set_option maxRecDepth 20000 in
theorem kw_X1_setOver {X : GX} {θ : TH} {ad Y : Nat → Nat} {Z : Zt} {S : St} {a1 : Int32} {a2 : Int32} (C : CX (mE X θ (wdC θ ad Y Z S) 3) RX1 cX1_setOver none 1 0 0)  : Dk (mE X θ (wdC θ ad Y Z S) 3) (mT X θ (wdC θ ad Y Z S) 3 (PVS (wdC θ ad Y Z))) 0 0 (wdC θ ad Y Z S) [(0, .ref (ad 39)), (1, .int a1), (2, .int a2)] [] 0 (f_X1_setOver Z S a1 a2) := by
  show Dk _ _ _ _ _ _ _ _ ((f_X1_has Z S a1).bind fun r1 => (if r1 = 0 then some S else chk (inr a1 12) (some (sa S 23 (a1).toNatClampNeg a2))))
  refine k_aload_n (q := 0) C dX1_setOver_0 rfl rfl ?_
  refine k_iload_n (q := 1) C dX1_setOver_1 rfl rfl ?_
  refine k_cVI C ct_X1_has my_1_has ml_1_32 rfl ⟨Nat.le_of_ble_eq_true rfl, Nat.le_of_ble_eq_true rfl⟩ (recvC (b := 20) (ci := 1) rfl ⟨rfl, rfl⟩ am_39 rfl rfl) rfl (Nat.le_of_ble_eq_true rfl) dX1_setOver_2 ⟨Nat.le_refl _, Nat.le_refl _⟩ (fun r1 _ => ?_)
  refine k_if_eq (tgt := 15) C dX1_setOver_5 (by decide) (fun _ => ?_) (fun _ => ?_)
  · exact k_vret C ⟨rfl, rfl⟩ dX1_setOver_15
  · refine k_aload_n (q := 0) C dX1_setOver_8 rfl rfl ?_
    refine c_get (b := 20) (ci := 1) (kf := 3) (N := 5) C rfl ⟨rfl, rfl⟩ am_39 rfl lay_1 kk_1_3 fl_1_21 rfl dX1_setOver_9 ?_
    refine k_iload_n (q := 1) C dX1_setOver_12 rfl rfl ?_
    refine k_iload_n (q := 2) C dX1_setOver_13 rfl rfl ?_
    refine c_iast (i := 23) C rfl am_23 ak_23 rfl dX1_setOver_14 ?_
    exact k_vret C ⟨rfl, rfl⟩ dX1_setOver_15
theorem ct_X1_setOver {l : Launch} {θ : TH} {ad Y : Nat → Nat} {S : St} {Z : Zt} {a1 : Int32} {a2 : Int32}  : ∀ r, f_X1_setOver Z S a1 a2 = some r → Ct l θ yX1_setOver cX1_setOver 3 none 1 0 0 [.ref (ad 39), .int a1, .int a2] (wdC θ ad Y Z S) (PVS (wdC θ ad Y Z) r) :=
  fun r hr => Ct.of (by decide +kernel) (Nat.le_of_ble_eq_true rfl) (fun X _ C _ => kw_X1_setOver C  r hr)
set_option maxRecDepth 20000 in
theorem kb_J7_fill_53178_L5_84 {X : GX} {θ : TH} {ad Y : Nat → Nat} {S0 : St} {F : Nat} {Z : Zt} {a2 : Int32} (C : CX (mE X θ (wdC θ ad Y Z S0) 4) RJ7 cJ7_fill_53178 none 0 0 0)  : ∀ (n : Nat) (S : St) (x2 : Int32) (x3 : Int32), Dk (mE X θ (wdC θ ad Y Z S0) 4) (mT X θ (wdC θ ad Y Z S0) 4 (PVS (wdC θ ad Y Z))) 0 0 (wdC θ ad Y Z S) [(0, .ref (ad 84)), (1, .int a2), (2, .int x2), (3, .int x3)] [] 5 (f_J7_fill_53178_L5 F 84 Z a2 n S x2 x3) := by
  intro n
  induction n with
  | zero => intro S x2 x3; exact Dk.none
  | succ n ih =>
    intro S x2 x3
    show Dk _ _ _ _ _ _ _ _ (if x3 ≤ x2 then some S else chk (inr x2 64) (f_J7_fill_53178_L5 F 84 Z a2 n (sa S 84 (x2).toNatClampNeg a2) (x2 + 1) x3))
    refine k_iload_n (q := 2) C dJ7_fill_53178_5 rfl rfl ?_
    refine k_iload_n (q := 3) C dJ7_fill_53178_6 rfl rfl ?_
    refine k_icmp_ge (tgt := 20) C dJ7_fill_53178_7 (by decide) (fun _ => ?_) (fun _ => ?_)
    · exact k_vret C ⟨rfl, rfl⟩ dJ7_fill_53178_20
    · refine k_aload_n (q := 0) C dJ7_fill_53178_10 rfl rfl ?_
      refine k_iload_n (q := 2) C dJ7_fill_53178_11 rfl rfl ?_
      refine k_iload_n (q := 1) C dJ7_fill_53178_12 rfl rfl ?_
      refine c_iast (i := 84) C rfl am_84 ak_84 rfl dJ7_fill_53178_13 ?_
      refine k_iinc (q := 2) (v := x2 + 1) (lv' := [(2, .int (x2 + 1)), (0, .ref (ad 84)), (1, .int a2), (3, .int x3)]) C dJ7_fill_53178_14 rfl rfl (Nat.le_of_ble_eq_true rfl) rfl ?_
      refine k_goto (tgt := 5) C dJ7_fill_53178_17 (by decide) ?_
      refine Dk.loc [1, 2, 0, 3] rfl ?_
      exact ih _ _ _
set_option maxRecDepth 20000 in
theorem kw_J7_fill_53178_84 {X : GX} {θ : TH} {ad Y : Nat → Nat} {F : Nat} {Z : Zt} {S : St} {a2 : Int32} (C : CX (mE X θ (wdC θ ad Y Z S) 4) RJ7 cJ7_fill_53178 none 0 0 0)  : Dk (mE X θ (wdC θ ad Y Z S) 4) (mT X θ (wdC θ ad Y Z S) 4 (PVS (wdC θ ad Y Z))) 0 0 (wdC θ ad Y Z S) [(0, .ref (ad 84)), (1, .int a2)] [] 0 (f_J7_fill_53178 F 84 Z S a2) := by
  show Dk _ _ _ _ _ _ _ _ (f_J7_fill_53178_L5 F 84 Z a2 F S 0 (Int32.ofNat (lnC Z 84)))
  refine k_iconst (v := 0) C dJ7_fill_53178_0 rfl ?_
  refine k_istore_n (lv' := [(2, .int 0), (0, .ref (ad 84)), (1, .int a2)]) C dJ7_fill_53178_1 rfl (Nat.le_of_ble_eq_true rfl) rfl ?_
  refine k_aload_n (q := 1) C dJ7_fill_53178_2 rfl rfl ?_
  refine c_alen (i := 84) (v := Int32.ofNat (lnC Z 84)) C rfl am_84 ak_84 rfl dJ7_fill_53178_3 ?_
  refine k_istore_n (lv' := [(3, .int (Int32.ofNat (lnC Z 84))), (2, .int 0), (0, .ref (ad 84)), (1, .int a2)]) C dJ7_fill_53178_4 rfl (Nat.le_of_ble_eq_true rfl) rfl ?_
  refine Dk.loc [2, 3, 1, 0] rfl ?_
  exact kb_J7_fill_53178_L5_84 C _ _ _ _
theorem ct_J7_fill_53178_84 {l : Launch} {θ : TH} {ad Y : Nat → Nat} {S : St} {F : Nat} {Z : Zt} {a2 : Int32}  : ∀ r, f_J7_fill_53178 F 84 Z S a2 = some r → Ct l θ yJ7_fill_53178 cJ7_fill_53178 4 none 0 0 0 [.ref (ad 84), .int a2] (wdC θ ad Y Z S) (PVS (wdC θ ad Y Z) r) :=
  fun r hr => Ct.of (by decide +kernel) (Nat.le_of_ble_eq_true rfl) (fun X _ C _ => kw_J7_fill_53178_84 C  r hr)
set_option maxRecDepth 20000 in
theorem kb_J7_fill_53178_L5_304 {X : GX} {θ : TH} {ad Y : Nat → Nat} {S0 : St} {F : Nat} {Z : Zt} {a2 : Int32} (C : CX (mE X θ (wdC θ ad Y Z S0) 4) RJ7 cJ7_fill_53178 none 0 0 0)  : ∀ (n : Nat) (S : St) (x2 : Int32) (x3 : Int32), Dk (mE X θ (wdC θ ad Y Z S0) 4) (mT X θ (wdC θ ad Y Z S0) 4 (PVS (wdC θ ad Y Z))) 0 0 (wdC θ ad Y Z S) [(0, .ref (ad 304)), (1, .int a2), (2, .int x2), (3, .int x3)] [] 5 (f_J7_fill_53178_L5 F 304 Z a2 n S x2 x3) := by
  intro n
  induction n with
  | zero => intro S x2 x3; exact Dk.none
  | succ n ih =>
    intro S x2 x3
    show Dk _ _ _ _ _ _ _ _ (if x3 ≤ x2 then some S else chk (inr x2 64) (f_J7_fill_53178_L5 F 304 Z a2 n (sa S 304 (x2).toNatClampNeg a2) (x2 + 1) x3))
    refine k_iload_n (q := 2) C dJ7_fill_53178_5 rfl rfl ?_
    refine k_iload_n (q := 3) C dJ7_fill_53178_6 rfl rfl ?_
    refine k_icmp_ge (tgt := 20) C dJ7_fill_53178_7 (by decide) (fun _ => ?_) (fun _ => ?_)
    · exact k_vret C ⟨rfl, rfl⟩ dJ7_fill_53178_20
    · refine k_aload_n (q := 0) C dJ7_fill_53178_10 rfl rfl ?_
      refine k_iload_n (q := 2) C dJ7_fill_53178_11 rfl rfl ?_
      refine k_iload_n (q := 1) C dJ7_fill_53178_12 rfl rfl ?_
      refine c_iast (i := 304) C rfl am_304 ak_304 rfl dJ7_fill_53178_13 ?_
      refine k_iinc (q := 2) (v := x2 + 1) (lv' := [(2, .int (x2 + 1)), (0, .ref (ad 304)), (1, .int a2), (3, .int x3)]) C dJ7_fill_53178_14 rfl rfl (Nat.le_of_ble_eq_true rfl) rfl ?_
      refine k_goto (tgt := 5) C dJ7_fill_53178_17 (by decide) ?_
      refine Dk.loc [1, 2, 0, 3] rfl ?_
      exact ih _ _ _
set_option maxRecDepth 20000 in
theorem kw_J7_fill_53178_304 {X : GX} {θ : TH} {ad Y : Nat → Nat} {F : Nat} {Z : Zt} {S : St} {a2 : Int32} (C : CX (mE X θ (wdC θ ad Y Z S) 4) RJ7 cJ7_fill_53178 none 0 0 0)  : Dk (mE X θ (wdC θ ad Y Z S) 4) (mT X θ (wdC θ ad Y Z S) 4 (PVS (wdC θ ad Y Z))) 0 0 (wdC θ ad Y Z S) [(0, .ref (ad 304)), (1, .int a2)] [] 0 (f_J7_fill_53178 F 304 Z S a2) := by
  show Dk _ _ _ _ _ _ _ _ (f_J7_fill_53178_L5 F 304 Z a2 F S 0 (Int32.ofNat (lnC Z 304)))
  refine k_iconst (v := 0) C dJ7_fill_53178_0 rfl ?_
  refine k_istore_n (lv' := [(2, .int 0), (0, .ref (ad 304)), (1, .int a2)]) C dJ7_fill_53178_1 rfl (Nat.le_of_ble_eq_true rfl) rfl ?_
  refine k_aload_n (q := 1) C dJ7_fill_53178_2 rfl rfl ?_
  refine c_alen (i := 304) (v := Int32.ofNat (lnC Z 304)) C rfl am_304 ak_304 rfl dJ7_fill_53178_3 ?_
  refine k_istore_n (lv' := [(3, .int (Int32.ofNat (lnC Z 304))), (2, .int 0), (0, .ref (ad 304)), (1, .int a2)]) C dJ7_fill_53178_4 rfl (Nat.le_of_ble_eq_true rfl) rfl ?_
  refine Dk.loc [2, 3, 1, 0] rfl ?_
  exact kb_J7_fill_53178_L5_304 C _ _ _ _
theorem ct_J7_fill_53178_304 {l : Launch} {θ : TH} {ad Y : Nat → Nat} {S : St} {F : Nat} {Z : Zt} {a2 : Int32}  : ∀ r, f_J7_fill_53178 F 304 Z S a2 = some r → Ct l θ yJ7_fill_53178 cJ7_fill_53178 4 none 0 0 0 [.ref (ad 304), .int a2] (wdC θ ad Y Z S) (PVS (wdC θ ad Y Z) r) :=
  fun r hr => Ct.of (by decide +kernel) (Nat.le_of_ble_eq_true rfl) (fun X _ C _ => kw_J7_fill_53178_304 C  r hr)
set_option maxRecDepth 20000 in
theorem kb_J7_fill_53178_L5_86 {X : GX} {θ : TH} {ad Y : Nat → Nat} {S0 : St} {F : Nat} {Z : Zt} {a2 : Int32} (C : CX (mE X θ (wdC θ ad Y Z S0) 4) RJ7 cJ7_fill_53178 none 0 0 0)  : ∀ (n : Nat) (S : St) (x2 : Int32) (x3 : Int32), Dk (mE X θ (wdC θ ad Y Z S0) 4) (mT X θ (wdC θ ad Y Z S0) 4 (PVS (wdC θ ad Y Z))) 0 0 (wdC θ ad Y Z S) [(0, .ref (Y 86)), (1, .int a2), (2, .int x2), (3, .int x3)] [] 5 (f_J7_fill_53178_L5 F 86 Z a2 n S x2 x3) := by
  intro n
  induction n with
  | zero => intro S x2 x3; exact Dk.none
  | succ n ih =>
    intro S x2 x3
    show Dk _ _ _ _ _ _ _ _ (if x3 ≤ x2 then some S else chk (inr x2 (lnC Z 86)) (f_J7_fill_53178_L5 F 86 Z a2 n (sa S 86 (x2).toNatClampNeg a2) (x2 + 1) x3))
    refine k_iload_n (q := 2) C dJ7_fill_53178_5 rfl rfl ?_
    refine k_iload_n (q := 3) C dJ7_fill_53178_6 rfl rfl ?_
    refine k_icmp_ge (tgt := 20) C dJ7_fill_53178_7 (by decide) (fun _ => ?_) (fun _ => ?_)
    · exact k_vret C ⟨rfl, rfl⟩ dJ7_fill_53178_20
    · refine k_aload_n (q := 0) C dJ7_fill_53178_10 rfl rfl ?_
      refine k_iload_n (q := 2) C dJ7_fill_53178_11 rfl rfl ?_
      refine k_iload_n (q := 1) C dJ7_fill_53178_12 rfl rfl ?_
      refine c_iast (i := 86) C rfl am_86 ak_86 rfl dJ7_fill_53178_13 ?_
      refine k_iinc (q := 2) (v := x2 + 1) (lv' := [(2, .int (x2 + 1)), (0, .ref (Y 86)), (1, .int a2), (3, .int x3)]) C dJ7_fill_53178_14 rfl rfl (Nat.le_of_ble_eq_true rfl) rfl ?_
      refine k_goto (tgt := 5) C dJ7_fill_53178_17 (by decide) ?_
      refine Dk.loc [1, 2, 0, 3] rfl ?_
      exact ih _ _ _
set_option maxRecDepth 20000 in
theorem kw_J7_fill_53178_86 {X : GX} {θ : TH} {ad Y : Nat → Nat} {F : Nat} {Z : Zt} {S : St} {a2 : Int32} (C : CX (mE X θ (wdC θ ad Y Z S) 4) RJ7 cJ7_fill_53178 none 0 0 0)  : Dk (mE X θ (wdC θ ad Y Z S) 4) (mT X θ (wdC θ ad Y Z S) 4 (PVS (wdC θ ad Y Z))) 0 0 (wdC θ ad Y Z S) [(0, .ref (Y 86)), (1, .int a2)] [] 0 (f_J7_fill_53178 F 86 Z S a2) := by
  show Dk _ _ _ _ _ _ _ _ (f_J7_fill_53178_L5 F 86 Z a2 F S 0 (Int32.ofNat (lnC Z 86)))
  refine k_iconst (v := 0) C dJ7_fill_53178_0 rfl ?_
  refine k_istore_n (lv' := [(2, .int 0), (0, .ref (Y 86)), (1, .int a2)]) C dJ7_fill_53178_1 rfl (Nat.le_of_ble_eq_true rfl) rfl ?_
  refine k_aload_n (q := 1) C dJ7_fill_53178_2 rfl rfl ?_
  refine c_alen (i := 86) (v := Int32.ofNat (lnC Z 86)) C rfl am_86 ak_86 rfl dJ7_fill_53178_3 ?_
  refine k_istore_n (lv' := [(3, .int (Int32.ofNat (lnC Z 86))), (2, .int 0), (0, .ref (Y 86)), (1, .int a2)]) C dJ7_fill_53178_4 rfl (Nat.le_of_ble_eq_true rfl) rfl ?_
  refine Dk.loc [2, 3, 1, 0] rfl ?_
  exact kb_J7_fill_53178_L5_86 C _ _ _ _
theorem ct_J7_fill_53178_86 {l : Launch} {θ : TH} {ad Y : Nat → Nat} {S : St} {F : Nat} {Z : Zt} {a2 : Int32}  : ∀ r, f_J7_fill_53178 F 86 Z S a2 = some r → Ct l θ yJ7_fill_53178 cJ7_fill_53178 4 none 0 0 0 [.ref (Y 86), .int a2] (wdC θ ad Y Z S) (PVS (wdC θ ad Y Z) r) :=
  fun r hr => Ct.of (by decide +kernel) (Nat.le_of_ble_eq_true rfl) (fun X _ C _ => kw_J7_fill_53178_86 C  r hr)
set_option maxRecDepth 20000 in
theorem kb_J7_fill_53178_L5_306 {X : GX} {θ : TH} {ad Y : Nat → Nat} {S0 : St} {F : Nat} {Z : Zt} {a2 : Int32} (C : CX (mE X θ (wdC θ ad Y Z S0) 4) RJ7 cJ7_fill_53178 none 0 0 0)  : ∀ (n : Nat) (S : St) (x2 : Int32) (x3 : Int32), Dk (mE X θ (wdC θ ad Y Z S0) 4) (mT X θ (wdC θ ad Y Z S0) 4 (PVS (wdC θ ad Y Z))) 0 0 (wdC θ ad Y Z S) [(0, .ref (Y 306)), (1, .int a2), (2, .int x2), (3, .int x3)] [] 5 (f_J7_fill_53178_L5 F 306 Z a2 n S x2 x3) := by
  intro n
  induction n with
  | zero => intro S x2 x3; exact Dk.none
  | succ n ih =>
    intro S x2 x3
    show Dk _ _ _ _ _ _ _ _ (if x3 ≤ x2 then some S else chk (inr x2 (lnC Z 306)) (f_J7_fill_53178_L5 F 306 Z a2 n (sa S 306 (x2).toNatClampNeg a2) (x2 + 1) x3))
    refine k_iload_n (q := 2) C dJ7_fill_53178_5 rfl rfl ?_
    refine k_iload_n (q := 3) C dJ7_fill_53178_6 rfl rfl ?_
    refine k_icmp_ge (tgt := 20) C dJ7_fill_53178_7 (by decide) (fun _ => ?_) (fun _ => ?_)
    · exact k_vret C ⟨rfl, rfl⟩ dJ7_fill_53178_20
    · refine k_aload_n (q := 0) C dJ7_fill_53178_10 rfl rfl ?_
      refine k_iload_n (q := 2) C dJ7_fill_53178_11 rfl rfl ?_
      refine k_iload_n (q := 1) C dJ7_fill_53178_12 rfl rfl ?_
      refine c_iast (i := 306) C rfl am_306 ak_306 rfl dJ7_fill_53178_13 ?_
      refine k_iinc (q := 2) (v := x2 + 1) (lv' := [(2, .int (x2 + 1)), (0, .ref (Y 306)), (1, .int a2), (3, .int x3)]) C dJ7_fill_53178_14 rfl rfl (Nat.le_of_ble_eq_true rfl) rfl ?_
      refine k_goto (tgt := 5) C dJ7_fill_53178_17 (by decide) ?_
      refine Dk.loc [1, 2, 0, 3] rfl ?_
      exact ih _ _ _
set_option maxRecDepth 20000 in
theorem kw_J7_fill_53178_306 {X : GX} {θ : TH} {ad Y : Nat → Nat} {F : Nat} {Z : Zt} {S : St} {a2 : Int32} (C : CX (mE X θ (wdC θ ad Y Z S) 4) RJ7 cJ7_fill_53178 none 0 0 0)  : Dk (mE X θ (wdC θ ad Y Z S) 4) (mT X θ (wdC θ ad Y Z S) 4 (PVS (wdC θ ad Y Z))) 0 0 (wdC θ ad Y Z S) [(0, .ref (Y 306)), (1, .int a2)] [] 0 (f_J7_fill_53178 F 306 Z S a2) := by
  show Dk _ _ _ _ _ _ _ _ (f_J7_fill_53178_L5 F 306 Z a2 F S 0 (Int32.ofNat (lnC Z 306)))
  refine k_iconst (v := 0) C dJ7_fill_53178_0 rfl ?_
  refine k_istore_n (lv' := [(2, .int 0), (0, .ref (Y 306)), (1, .int a2)]) C dJ7_fill_53178_1 rfl (Nat.le_of_ble_eq_true rfl) rfl ?_
  refine k_aload_n (q := 1) C dJ7_fill_53178_2 rfl rfl ?_
  refine c_alen (i := 306) (v := Int32.ofNat (lnC Z 306)) C rfl am_306 ak_306 rfl dJ7_fill_53178_3 ?_
  refine k_istore_n (lv' := [(3, .int (Int32.ofNat (lnC Z 306))), (2, .int 0), (0, .ref (Y 306)), (1, .int a2)]) C dJ7_fill_53178_4 rfl (Nat.le_of_ble_eq_true rfl) rfl ?_
  refine Dk.loc [2, 3, 1, 0] rfl ?_
  exact kb_J7_fill_53178_L5_306 C _ _ _ _
theorem ct_J7_fill_53178_306 {l : Launch} {θ : TH} {ad Y : Nat → Nat} {S : St} {F : Nat} {Z : Zt} {a2 : Int32}  : ∀ r, f_J7_fill_53178 F 306 Z S a2 = some r → Ct l θ yJ7_fill_53178 cJ7_fill_53178 4 none 0 0 0 [.ref (Y 306), .int a2] (wdC θ ad Y Z S) (PVS (wdC θ ad Y Z) r) :=
  fun r hr => Ct.of (by decide +kernel) (Nat.le_of_ble_eq_true rfl) (fun X _ C _ => kw_J7_fill_53178_306 C  r hr)
set_option maxRecDepth 20000 in
theorem kb_X4_forget_B39_80 {X : GX} {θ : TH} {ad : Nat → Nat} {Y0 : Nat → Nat} {S0 : St} {Z0 : Zt} {F : Nat} (C : CX (mE X θ (wdC θ ad Y0 Z0 S0) 1) RX4 cX4_forget none 1 (nd 80 Z0) (9216 * nd 80 Z0))  (S : St) (Z : Zt) (Y : Nat → Nat) (k1 n1 : Nat) (hb : BDb 80 k1 n1 Z (nd 80 Z0) (9216 * nd 80 Z0)) : Dk (mE X θ (wdC θ ad Y0 Z0 S0) 1) (mTa X θ (wdC θ ad Y0 Z0 S0) 1 (nd 80 Z0) (9216 * nd 80 Z0) (PVA θ ad)) k1 n1 (wdC θ ad Y Z S) [(0, .ref (ad 99))] [] 39 (f_X4_forget_B39 F 80 S Z) := by
  show Dk _ _ _ _ _ _ _ _ (some (sf S 87 ((S.1 87) + 16384), Z))
  refine k_aload_n (q := 0) C dX4_forget_39 rfl rfl ?_
  refine k_dup C dX4_forget_40 rfl ?_
  refine c_get (b := 80) (ci := 4) (kf := 7) (N := 11) (v := .int (S.1 87)) C rfl ⟨rfl, rfl⟩ am_99 rfl lay_4 kk_4_7 fl_4_27 rfl dX4_forget_41 ?_
  refine k_sipush (v := 16384) C dX4_forget_44 rfl ?_
  refine k_iadd C dX4_forget_47 ?_
  refine c_puti (b := 80) (ci := 4) (kf := 7) (N := 11) C rfl ⟨rfl, rfl⟩ am_99 rfl lay_4 tyX4 tyX4_ok nmX4 kk_4_7 fl_4_27 pf_4_7 dX4_forget_48 ?_
  exact k_vretA hb.e C ⟨rfl, _, rfl⟩ dX4_forget_51
set_option maxRecDepth 20000 in
theorem kb_X4_forget_B17_80 {X : GX} {θ : TH} {ad : Nat → Nat} {Y0 : Nat → Nat} {S0 : St} {Z0 : Zt} {F : Nat} (C : CX (mE X θ (wdC θ ad Y0 Z0 S0) 1) RX4 cX4_forget none 1 (nd 80 Z0) (9216 * nd 80 Z0))  (S : St) (Z : Zt) (Y : Nat → Nat) (k1 n1 : Nat) (hb : BDb 80 k1 n1 Z (nd 80 Z0) (9216 * nd 80 Z0)) : Dk (mE X θ (wdC θ ad Y0 Z0 S0) 1) (mTa X θ (wdC θ ad Y0 Z0 S0) 1 (nd 80 Z0) (9216 * nd 80 Z0) (PVA θ ad)) k1 n1 (wdC θ ad Y Z S) [(0, .ref (ad 99))] [] 17 (f_X4_forget_B17 F 80 S Z) := by
  show Dk _ _ _ _ _ _ _ _ (if (S.1 87) ≤ 2000000000 then f_X4_forget_B39 F 80 S Z else (f_J7_fill_53178 F 86 Z S 0).bind fun r2 => f_X4_forget_B39 F 80 (sf r2 87 0) Z)
  refine k_aload_n (q := 0) C dX4_forget_17 rfl rfl ?_
  refine c_get (b := 80) (ci := 4) (kf := 7) (N := 11) (v := .int (S.1 87)) C rfl ⟨rfl, rfl⟩ am_99 rfl lay_4 kk_4_7 fl_4_27 rfl dX4_forget_18 ?_
  refine k_ldc C co_4_67 dX4_forget_21 ?_
  refine k_icmp_le (tgt := 39) C dX4_forget_23 (by decide) (fun _ => ?_) (fun _ => ?_)
  · exact kb_X4_forget_B39_80 C _ _ _ _ _ hb
  · refine k_aload_n (q := 0) C dX4_forget_26 rfl rfl ?_
    refine c_get (b := 80) (ci := 4) (kf := 6) (N := 11) C rfl ⟨rfl, rfl⟩ am_99 rfl lay_4 kk_4_6 fl_4_24 rfl dX4_forget_27 ?_
    refine k_iconst (v := 0) C dX4_forget_30 rfl ?_
    refine k_cSV C ct_J7_fill_53178_86 my_J7_fill_53178 ml_4_58 rfl ⟨Nat.le_of_ble_eq_true rfl, Nat.le_of_ble_eq_true rfl⟩ rfl (Nat.le_of_ble_eq_true rfl) dX4_forget_31 hb.e (fun r2 _ => ?_)
    refine k_aload_n (q := 0) C dX4_forget_34 rfl rfl ?_
    refine k_iconst (v := 0) C dX4_forget_35 rfl ?_
    refine c_puti (b := 80) (ci := 4) (kf := 7) (N := 11) C rfl ⟨rfl, rfl⟩ am_99 rfl lay_4 tyX4 tyX4_ok nmX4 kk_4_7 fl_4_27 pf_4_7 dX4_forget_36 ?_
    exact kb_X4_forget_B39_80 C _ _ _ _ _ hb
set_option maxRecDepth 20000 in
theorem kw_X4_forget_80 {X : GX} {θ : TH} {ad : Nat → Nat} {Y : Nat → Nat} {F : Nat} {S : St} {Z : Zt}  (C : CX (mE X θ (wdC θ ad Y Z S) 1) RX4 cX4_forget none 1 (nd 80 Z) (9216 * nd 80 Z))  : Dk (mE X θ (wdC θ ad Y Z S) 1) (mTa X θ (wdC θ ad Y Z S) 1 (nd 80 Z) (9216 * nd 80 Z) (PVA θ ad)) 0 0 (wdC θ ad Y Z S) [(0, .ref (ad 99))] [] 0 (f_X4_forget F 80 S Z) := by
  have hb := @BDb.z 80 Z
  show Dk _ _ _ _ _ _ _ _ (if (Int32.ofNat (lnC Z 86)) = 0 then chk (kz 80 Z) (f_X4_forget_B17 F 80 (sA S 86 (fun _ => 0)) (zk 80 Z)) else f_X4_forget_B17 F 80 S Z)
  refine k_aload_n (q := 0) C dX4_forget_0 rfl rfl ?_
  refine c_get (b := 80) (ci := 4) (kf := 6) (N := 11) C rfl ⟨rfl, rfl⟩ am_99 rfl lay_4 kk_4_6 fl_4_24 rfl dX4_forget_1 ?_
  refine c_alen (i := 86) (v := Int32.ofNat (lnC Z 86)) C rfl am_86 ak_86 rfl dX4_forget_4 ?_
  refine k_if_ne (tgt := 17) C dX4_forget_5 (by decide) (fun _ => ?_) (fun _ => ?_)
  · exact kb_X4_forget_B17_80 C _ _ _ _ _ hb
  · refine k_aload_n (q := 0) C dX4_forget_8 rfl rfl ?_
    refine k_sipush (v := 9216) C dX4_forget_9 rfl ?_
    refine k_chk fun hz0 => ?_
    refine c_newkept (b := 80) (idx := 24) C (by decide) dX4_forget_12 fl_4_24 dX4_forget_14 (BDb.k1 hb hz0) (fun Y1 => ?_)
    exact kb_X4_forget_B17_80 C _ _ _ _ _ (BDb.k hb hz0)
theorem ct_X4_forget_80 {l : Launch} {θ : TH} {ad Y : Nat → Nat} {S : St} {Z : Zt} {F : Nat}   : ∀ r, f_X4_forget F 80 S Z = some r → Ct l θ yX4_forget cX4_forget 1 none 1 (nd 80 Z) (9216 * nd 80 Z) [.ref (ad 99)] (wdC θ ad Y Z S) (PVA θ ad r) :=
  fun r hr => Ct.of (by decide +kernel) (Nat.le_of_ble_eq_true rfl) (fun X _ C _ => kw_X4_forget_80 C  r hr)
set_option maxRecDepth 20000 in
theorem kb_X4_forget_B39_300 {X : GX} {θ : TH} {ad : Nat → Nat} {Y0 : Nat → Nat} {S0 : St} {Z0 : Zt} {F : Nat} (C : CX (mE X θ (wdC θ ad Y0 Z0 S0) 1) RX4 cX4_forget none 1 (nd 300 Z0) (9216 * nd 300 Z0))  (S : St) (Z : Zt) (Y : Nat → Nat) (k1 n1 : Nat) (hb : BDb 300 k1 n1 Z (nd 300 Z0) (9216 * nd 300 Z0)) : Dk (mE X θ (wdC θ ad Y0 Z0 S0) 1) (mTa X θ (wdC θ ad Y0 Z0 S0) 1 (nd 300 Z0) (9216 * nd 300 Z0) (PVA θ ad)) k1 n1 (wdC θ ad Y Z S) [(0, .ref (ad 319))] [] 39 (f_X4_forget_B39 F 300 S Z) := by
  show Dk _ _ _ _ _ _ _ _ (some (sf S 307 ((S.1 307) + 16384), Z))
  refine k_aload_n (q := 0) C dX4_forget_39 rfl rfl ?_
  refine k_dup C dX4_forget_40 rfl ?_
  refine c_get (b := 300) (ci := 4) (kf := 7) (N := 11) (v := .int (S.1 307)) C rfl ⟨rfl, rfl⟩ am_319 rfl lay_4 kk_4_7 fl_4_27 rfl dX4_forget_41 ?_
  refine k_sipush (v := 16384) C dX4_forget_44 rfl ?_
  refine k_iadd C dX4_forget_47 ?_
  refine c_puti (b := 300) (ci := 4) (kf := 7) (N := 11) C rfl ⟨rfl, rfl⟩ am_319 rfl lay_4 tyX4 tyX4_ok nmX4 kk_4_7 fl_4_27 pf_4_7 dX4_forget_48 ?_
  exact k_vretA hb.e C ⟨rfl, _, rfl⟩ dX4_forget_51
set_option maxRecDepth 20000 in
theorem kb_X4_forget_B17_300 {X : GX} {θ : TH} {ad : Nat → Nat} {Y0 : Nat → Nat} {S0 : St} {Z0 : Zt} {F : Nat} (C : CX (mE X θ (wdC θ ad Y0 Z0 S0) 1) RX4 cX4_forget none 1 (nd 300 Z0) (9216 * nd 300 Z0))  (S : St) (Z : Zt) (Y : Nat → Nat) (k1 n1 : Nat) (hb : BDb 300 k1 n1 Z (nd 300 Z0) (9216 * nd 300 Z0)) : Dk (mE X θ (wdC θ ad Y0 Z0 S0) 1) (mTa X θ (wdC θ ad Y0 Z0 S0) 1 (nd 300 Z0) (9216 * nd 300 Z0) (PVA θ ad)) k1 n1 (wdC θ ad Y Z S) [(0, .ref (ad 319))] [] 17 (f_X4_forget_B17 F 300 S Z) := by
  show Dk _ _ _ _ _ _ _ _ (if (S.1 307) ≤ 2000000000 then f_X4_forget_B39 F 300 S Z else (f_J7_fill_53178 F 306 Z S 0).bind fun r2 => f_X4_forget_B39 F 300 (sf r2 307 0) Z)
  refine k_aload_n (q := 0) C dX4_forget_17 rfl rfl ?_
  refine c_get (b := 300) (ci := 4) (kf := 7) (N := 11) (v := .int (S.1 307)) C rfl ⟨rfl, rfl⟩ am_319 rfl lay_4 kk_4_7 fl_4_27 rfl dX4_forget_18 ?_
  refine k_ldc C co_4_67 dX4_forget_21 ?_
  refine k_icmp_le (tgt := 39) C dX4_forget_23 (by decide) (fun _ => ?_) (fun _ => ?_)
  · exact kb_X4_forget_B39_300 C _ _ _ _ _ hb
  · refine k_aload_n (q := 0) C dX4_forget_26 rfl rfl ?_
    refine c_get (b := 300) (ci := 4) (kf := 6) (N := 11) C rfl ⟨rfl, rfl⟩ am_319 rfl lay_4 kk_4_6 fl_4_24 rfl dX4_forget_27 ?_
    refine k_iconst (v := 0) C dX4_forget_30 rfl ?_
    refine k_cSV C ct_J7_fill_53178_306 my_J7_fill_53178 ml_4_58 rfl ⟨Nat.le_of_ble_eq_true rfl, Nat.le_of_ble_eq_true rfl⟩ rfl (Nat.le_of_ble_eq_true rfl) dX4_forget_31 hb.e (fun r2 _ => ?_)
    refine k_aload_n (q := 0) C dX4_forget_34 rfl rfl ?_
    refine k_iconst (v := 0) C dX4_forget_35 rfl ?_
    refine c_puti (b := 300) (ci := 4) (kf := 7) (N := 11) C rfl ⟨rfl, rfl⟩ am_319 rfl lay_4 tyX4 tyX4_ok nmX4 kk_4_7 fl_4_27 pf_4_7 dX4_forget_36 ?_
    exact kb_X4_forget_B39_300 C _ _ _ _ _ hb
set_option maxRecDepth 20000 in
theorem kw_X4_forget_300 {X : GX} {θ : TH} {ad : Nat → Nat} {Y : Nat → Nat} {F : Nat} {S : St} {Z : Zt}  (C : CX (mE X θ (wdC θ ad Y Z S) 1) RX4 cX4_forget none 1 (nd 300 Z) (9216 * nd 300 Z))  : Dk (mE X θ (wdC θ ad Y Z S) 1) (mTa X θ (wdC θ ad Y Z S) 1 (nd 300 Z) (9216 * nd 300 Z) (PVA θ ad)) 0 0 (wdC θ ad Y Z S) [(0, .ref (ad 319))] [] 0 (f_X4_forget F 300 S Z) := by
  have hb := @BDb.z 300 Z
  show Dk _ _ _ _ _ _ _ _ (if (Int32.ofNat (lnC Z 306)) = 0 then chk (kz 300 Z) (f_X4_forget_B17 F 300 (sA S 306 (fun _ => 0)) (zk 300 Z)) else f_X4_forget_B17 F 300 S Z)
  refine k_aload_n (q := 0) C dX4_forget_0 rfl rfl ?_
  refine c_get (b := 300) (ci := 4) (kf := 6) (N := 11) C rfl ⟨rfl, rfl⟩ am_319 rfl lay_4 kk_4_6 fl_4_24 rfl dX4_forget_1 ?_
  refine c_alen (i := 306) (v := Int32.ofNat (lnC Z 306)) C rfl am_306 ak_306 rfl dX4_forget_4 ?_
  refine k_if_ne (tgt := 17) C dX4_forget_5 (by decide) (fun _ => ?_) (fun _ => ?_)
  · exact kb_X4_forget_B17_300 C _ _ _ _ _ hb
  · refine k_aload_n (q := 0) C dX4_forget_8 rfl rfl ?_
    refine k_sipush (v := 9216) C dX4_forget_9 rfl ?_
    refine k_chk fun hz0 => ?_
    refine c_newkept (b := 300) (idx := 24) C (by decide) dX4_forget_12 fl_4_24 dX4_forget_14 (BDb.k1 hb hz0) (fun Y1 => ?_)
    exact kb_X4_forget_B17_300 C _ _ _ _ _ (BDb.k hb hz0)
theorem ct_X4_forget_300 {l : Launch} {θ : TH} {ad Y : Nat → Nat} {S : St} {Z : Zt} {F : Nat}   : ∀ r, f_X4_forget F 300 S Z = some r → Ct l θ yX4_forget cX4_forget 1 none 1 (nd 300 Z) (9216 * nd 300 Z) [.ref (ad 319)] (wdC θ ad Y Z S) (PVA θ ad r) :=
  fun r hr => Ct.of (by decide +kernel) (Nat.le_of_ble_eq_true rfl) (fun X _ C _ => kw_X4_forget_300 C  r hr)
set_option maxRecDepth 20000 in
theorem kw_X4_open_80 {X : GX} {θ : TH} {ad : Nat → Nat} {Y : Nat → Nat} {F : Nat} {S : St} {Z : Zt} {a1 : Int32} {a2 : Int32} (C : CX (mE X θ (wdC θ ad Y Z S) 3) RX4 cX4_open none 3 (nd 80 Z) (9216 * nd 80 Z))  : Dk (mE X θ (wdC θ ad Y Z S) 3) (mTa X θ (wdC θ ad Y Z S) 3 (nd 80 Z) (9216 * nd 80 Z) (PVA θ ad)) 0 0 (wdC θ ad Y Z S) [(0, .ref (ad 99)), (1, .int a1), (2, .int a2)] [] 0 (f_X4_open F 80 S Z a1 a2) := by
  have hb := @BDb.z 80 Z
  show Dk _ _ _ _ _ _ _ _ ((f_X1_hoursOf Z (sf S 88 a2) a1).bind fun r1 => (f_X1_told Z (sf (sf S 88 a2) 89 r1) a1 3).bind fun r2 => (f_X1_told Z (sf (sf (sf S 88 a2) 89 r1) 90 r2) a1 0).bind fun r3 => chk (inr (0 : Int32) 7) (chk (inr (2 : Int32) 7) (chk (inr (4 : Int32) 7) ((f_X1_told Z (sa (sa (sa (sf (sf (sf S 88 a2) 89 r1) 90 r2) 82 ((0 : Int32)).toNatClampNeg r3) 82 ((2 : Int32)).toNatClampNeg r1) 82 ((4 : Int32)).toNatClampNeg a2) a1 2).bind fun r4 => chk (inr (5 : Int32) 7) ((f_J7_fill_53178 F 84 Z (sa (sa (sa (sa (sf (sf (sf S 88 a2) 89 r1) 90 r2) 82 ((0 : Int32)).toNatClampNeg r3) 82 ((2 : Int32)).toNatClampNeg r1) 82 ((4 : Int32)).toNatClampNeg a2) 82 ((5 : Int32)).toNatClampNeg r4) (-1)).bind fun r5 => (f_X4_forget F 80 r5 Z).bind fun r6 => some (r6.1, r6.2))))))
  refine k_aload_n (q := 0) C dX4_open_0 rfl rfl ?_
  refine k_iload_n (q := 2) C dX4_open_1 rfl rfl ?_
  refine c_puti (b := 80) (ci := 4) (kf := 8) (N := 11) C rfl ⟨rfl, rfl⟩ am_99 rfl lay_4 tyX4 tyX4_ok nmX4 kk_4_8 fl_4_31 pf_4_8 dX4_open_2 ?_
  refine k_aload_n (q := 0) C dX4_open_5 rfl rfl ?_
  refine k_aload_n (q := 0) C dX4_open_6 rfl rfl ?_
  refine c_get (b := 80) (ci := 4) (kf := 1) (N := 11) C rfl ⟨rfl, rfl⟩ am_99 rfl lay_4 kk_4_1 fl_4_44 rfl dX4_open_7 ?_
  refine k_iload_n (q := 1) C dX4_open_10 rfl rfl ?_
  refine k_cVI C ct_X1_hoursOf my_1_hoursOf ml_4_48 rfl ⟨Nat.le_of_ble_eq_true rfl, Nat.le_of_ble_eq_true rfl⟩ (recvC (b := 20) (ci := 1) rfl ⟨rfl, rfl⟩ am_39 rfl rfl) rfl (Nat.le_of_ble_eq_true rfl) dX4_open_11 hb.e (fun r1 _ => ?_)
  refine c_puti (b := 80) (ci := 4) (kf := 9) (N := 11) C rfl ⟨rfl, rfl⟩ am_99 rfl lay_4 tyX4 tyX4_ok nmX4 kk_4_9 fl_4_34 pf_4_9 dX4_open_14 ?_
  refine k_aload_n (q := 0) C dX4_open_17 rfl rfl ?_
  refine k_aload_n (q := 0) C dX4_open_18 rfl rfl ?_
  refine c_get (b := 80) (ci := 4) (kf := 1) (N := 11) C rfl ⟨rfl, rfl⟩ am_99 rfl lay_4 kk_4_1 fl_4_44 rfl dX4_open_19 ?_
  refine k_iload_n (q := 1) C dX4_open_22 rfl rfl ?_
  refine k_iconst (v := 3) C dX4_open_23 rfl ?_
  refine k_cVI C ct_X1_told my_1_told ml_4_54 rfl ⟨Nat.le_of_ble_eq_true rfl, Nat.le_of_ble_eq_true rfl⟩ (recvC (b := 20) (ci := 1) rfl ⟨rfl, rfl⟩ am_39 rfl rfl) rfl (Nat.le_of_ble_eq_true rfl) dX4_open_24 hb.e (fun r2 _ => ?_)
  refine c_puti (b := 80) (ci := 4) (kf := 10) (N := 11) C rfl ⟨rfl, rfl⟩ am_99 rfl lay_4 tyX4 tyX4_ok nmX4 kk_4_10 fl_4_37 pf_4_10 dX4_open_27 ?_
  refine k_aload_n (q := 0) C dX4_open_30 rfl rfl ?_
  refine c_get (b := 80) (ci := 4) (kf := 2) (N := 11) C rfl ⟨rfl, rfl⟩ am_99 rfl lay_4 kk_4_2 fl_4_9 rfl dX4_open_31 ?_
  refine k_iconst (v := 0) C dX4_open_34 rfl ?_
  refine k_aload_n (q := 0) C dX4_open_35 rfl rfl ?_
  refine c_get (b := 80) (ci := 4) (kf := 1) (N := 11) C rfl ⟨rfl, rfl⟩ am_99 rfl lay_4 kk_4_1 fl_4_44 rfl dX4_open_36 ?_
  refine k_iload_n (q := 1) C dX4_open_39 rfl rfl ?_
  refine k_iconst (v := 0) C dX4_open_40 rfl ?_
  refine k_cVI C ct_X1_told my_1_told ml_4_54 rfl ⟨Nat.le_of_ble_eq_true rfl, Nat.le_of_ble_eq_true rfl⟩ (recvC (b := 20) (ci := 1) rfl ⟨rfl, rfl⟩ am_39 rfl rfl) rfl (Nat.le_of_ble_eq_true rfl) dX4_open_41 hb.e (fun r3 _ => ?_)
  refine c_iast (i := 82) C rfl am_82 ak_82 rfl dX4_open_44 ?_
  refine k_aload_n (q := 0) C dX4_open_45 rfl rfl ?_
  refine c_get (b := 80) (ci := 4) (kf := 2) (N := 11) C rfl ⟨rfl, rfl⟩ am_99 rfl lay_4 kk_4_2 fl_4_9 rfl dX4_open_46 ?_
  refine k_iconst (v := 2) C dX4_open_49 rfl ?_
  refine k_aload_n (q := 0) C dX4_open_50 rfl rfl ?_
  refine c_get (b := 80) (ci := 4) (kf := 9) (N := 11) (v := .int r1) C rfl ⟨rfl, rfl⟩ am_99 rfl lay_4 kk_4_9 fl_4_34 rfl dX4_open_51 ?_
  refine c_iast (i := 82) C rfl am_82 ak_82 rfl dX4_open_54 ?_
  refine k_aload_n (q := 0) C dX4_open_55 rfl rfl ?_
  refine c_get (b := 80) (ci := 4) (kf := 2) (N := 11) C rfl ⟨rfl, rfl⟩ am_99 rfl lay_4 kk_4_2 fl_4_9 rfl dX4_open_56 ?_
  refine k_iconst (v := 4) C dX4_open_59 rfl ?_
  refine k_iload_n (q := 2) C dX4_open_60 rfl rfl ?_
  refine c_iast (i := 82) C rfl am_82 ak_82 rfl dX4_open_61 ?_
  refine k_aload_n (q := 0) C dX4_open_62 rfl rfl ?_
  refine c_get (b := 80) (ci := 4) (kf := 2) (N := 11) C rfl ⟨rfl, rfl⟩ am_99 rfl lay_4 kk_4_2 fl_4_9 rfl dX4_open_63 ?_
  refine k_iconst (v := 5) C dX4_open_66 rfl ?_
  refine k_aload_n (q := 0) C dX4_open_67 rfl rfl ?_
  refine c_get (b := 80) (ci := 4) (kf := 1) (N := 11) C rfl ⟨rfl, rfl⟩ am_99 rfl lay_4 kk_4_1 fl_4_44 rfl dX4_open_68 ?_
  refine k_iload_n (q := 1) C dX4_open_71 rfl rfl ?_
  refine k_iconst (v := 2) C dX4_open_72 rfl ?_
  refine k_cVI C ct_X1_told my_1_told ml_4_54 rfl ⟨Nat.le_of_ble_eq_true rfl, Nat.le_of_ble_eq_true rfl⟩ (recvC (b := 20) (ci := 1) rfl ⟨rfl, rfl⟩ am_39 rfl rfl) rfl (Nat.le_of_ble_eq_true rfl) dX4_open_73 hb.e (fun r4 _ => ?_)
  refine c_iast (i := 82) C rfl am_82 ak_82 rfl dX4_open_76 ?_
  refine k_aload_n (q := 0) C dX4_open_77 rfl rfl ?_
  refine c_get (b := 80) (ci := 4) (kf := 4) (N := 11) C rfl ⟨rfl, rfl⟩ am_99 rfl lay_4 kk_4_4 fl_4_18 rfl dX4_open_78 ?_
  refine k_iconst (v := (-1)) C dX4_open_81 rfl ?_
  refine k_cSV C ct_J7_fill_53178_84 my_J7_fill_53178 ml_4_58 rfl ⟨Nat.le_of_ble_eq_true rfl, Nat.le_of_ble_eq_true rfl⟩ rfl (Nat.le_of_ble_eq_true rfl) dX4_open_82 hb.e (fun r5 _ => ?_)
  refine k_aload_n (q := 0) C dX4_open_85 rfl rfl ?_
  refine k_cAV C ct_X4_forget_80 my_4_forget ml_4_64 rfl ⟨Nat.le_of_ble_eq_true rfl, Nat.le_of_ble_eq_true rfl⟩ (recvC (b := 80) (ci := 4) rfl ⟨rfl, rfl⟩ am_99 rfl rfl) rfl (Nat.le_of_ble_eq_true rfl) dX4_open_86 hb (fun r6 Y7 hr8 => ?_)
  exact k_vretA (BDb.o hb (za_forget1 (by decide) hr8)).e C ⟨rfl, _, rfl⟩ dX4_open_89
theorem ct_X4_open_80 {l : Launch} {θ : TH} {ad Y : Nat → Nat} {S : St} {Z : Zt} {F : Nat} {a1 : Int32} {a2 : Int32}  : ∀ r, f_X4_open F 80 S Z a1 a2 = some r → Ct l θ yX4_open cX4_open 3 none 3 (nd 80 Z) (9216 * nd 80 Z) [.ref (ad 99), .int a1, .int a2] (wdC θ ad Y Z S) (PVA θ ad r) :=
  fun r hr => Ct.of (by decide +kernel) (Nat.le_of_ble_eq_true rfl) (fun X _ C _ => kw_X4_open_80 C  r hr)
set_option maxRecDepth 20000 in
theorem kw_X4_open_300 {X : GX} {θ : TH} {ad : Nat → Nat} {Y : Nat → Nat} {F : Nat} {S : St} {Z : Zt} {a1 : Int32} {a2 : Int32} (C : CX (mE X θ (wdC θ ad Y Z S) 3) RX4 cX4_open none 3 (nd 300 Z) (9216 * nd 300 Z))  : Dk (mE X θ (wdC θ ad Y Z S) 3) (mTa X θ (wdC θ ad Y Z S) 3 (nd 300 Z) (9216 * nd 300 Z) (PVA θ ad)) 0 0 (wdC θ ad Y Z S) [(0, .ref (ad 319)), (1, .int a1), (2, .int a2)] [] 0 (f_X4_open F 300 S Z a1 a2) := by
  have hb := @BDb.z 300 Z
  show Dk _ _ _ _ _ _ _ _ ((f_X1_hoursOf Z (sf S 308 a2) a1).bind fun r1 => (f_X1_told Z (sf (sf S 308 a2) 309 r1) a1 3).bind fun r2 => (f_X1_told Z (sf (sf (sf S 308 a2) 309 r1) 310 r2) a1 0).bind fun r3 => chk (inr (0 : Int32) 7) (chk (inr (2 : Int32) 7) (chk (inr (4 : Int32) 7) ((f_X1_told Z (sa (sa (sa (sf (sf (sf S 308 a2) 309 r1) 310 r2) 302 ((0 : Int32)).toNatClampNeg r3) 302 ((2 : Int32)).toNatClampNeg r1) 302 ((4 : Int32)).toNatClampNeg a2) a1 2).bind fun r4 => chk (inr (5 : Int32) 7) ((f_J7_fill_53178 F 304 Z (sa (sa (sa (sa (sf (sf (sf S 308 a2) 309 r1) 310 r2) 302 ((0 : Int32)).toNatClampNeg r3) 302 ((2 : Int32)).toNatClampNeg r1) 302 ((4 : Int32)).toNatClampNeg a2) 302 ((5 : Int32)).toNatClampNeg r4) (-1)).bind fun r5 => (f_X4_forget F 300 r5 Z).bind fun r6 => some (r6.1, r6.2))))))
  refine k_aload_n (q := 0) C dX4_open_0 rfl rfl ?_
  refine k_iload_n (q := 2) C dX4_open_1 rfl rfl ?_
  refine c_puti (b := 300) (ci := 4) (kf := 8) (N := 11) C rfl ⟨rfl, rfl⟩ am_319 rfl lay_4 tyX4 tyX4_ok nmX4 kk_4_8 fl_4_31 pf_4_8 dX4_open_2 ?_
  refine k_aload_n (q := 0) C dX4_open_5 rfl rfl ?_
  refine k_aload_n (q := 0) C dX4_open_6 rfl rfl ?_
  refine c_get (b := 300) (ci := 4) (kf := 1) (N := 11) C rfl ⟨rfl, rfl⟩ am_319 rfl lay_4 kk_4_1 fl_4_44 rfl dX4_open_7 ?_
  refine k_iload_n (q := 1) C dX4_open_10 rfl rfl ?_
  refine k_cVI C ct_X1_hoursOf my_1_hoursOf ml_4_48 rfl ⟨Nat.le_of_ble_eq_true rfl, Nat.le_of_ble_eq_true rfl⟩ (recvC (b := 20) (ci := 1) rfl ⟨rfl, rfl⟩ am_39 rfl rfl) rfl (Nat.le_of_ble_eq_true rfl) dX4_open_11 hb.e (fun r1 _ => ?_)
  refine c_puti (b := 300) (ci := 4) (kf := 9) (N := 11) C rfl ⟨rfl, rfl⟩ am_319 rfl lay_4 tyX4 tyX4_ok nmX4 kk_4_9 fl_4_34 pf_4_9 dX4_open_14 ?_
  refine k_aload_n (q := 0) C dX4_open_17 rfl rfl ?_
  refine k_aload_n (q := 0) C dX4_open_18 rfl rfl ?_
  refine c_get (b := 300) (ci := 4) (kf := 1) (N := 11) C rfl ⟨rfl, rfl⟩ am_319 rfl lay_4 kk_4_1 fl_4_44 rfl dX4_open_19 ?_
  refine k_iload_n (q := 1) C dX4_open_22 rfl rfl ?_
  refine k_iconst (v := 3) C dX4_open_23 rfl ?_
  refine k_cVI C ct_X1_told my_1_told ml_4_54 rfl ⟨Nat.le_of_ble_eq_true rfl, Nat.le_of_ble_eq_true rfl⟩ (recvC (b := 20) (ci := 1) rfl ⟨rfl, rfl⟩ am_39 rfl rfl) rfl (Nat.le_of_ble_eq_true rfl) dX4_open_24 hb.e (fun r2 _ => ?_)
  refine c_puti (b := 300) (ci := 4) (kf := 10) (N := 11) C rfl ⟨rfl, rfl⟩ am_319 rfl lay_4 tyX4 tyX4_ok nmX4 kk_4_10 fl_4_37 pf_4_10 dX4_open_27 ?_
  refine k_aload_n (q := 0) C dX4_open_30 rfl rfl ?_
  refine c_get (b := 300) (ci := 4) (kf := 2) (N := 11) C rfl ⟨rfl, rfl⟩ am_319 rfl lay_4 kk_4_2 fl_4_9 rfl dX4_open_31 ?_
  refine k_iconst (v := 0) C dX4_open_34 rfl ?_
  refine k_aload_n (q := 0) C dX4_open_35 rfl rfl ?_
  refine c_get (b := 300) (ci := 4) (kf := 1) (N := 11) C rfl ⟨rfl, rfl⟩ am_319 rfl lay_4 kk_4_1 fl_4_44 rfl dX4_open_36 ?_
  refine k_iload_n (q := 1) C dX4_open_39 rfl rfl ?_
  refine k_iconst (v := 0) C dX4_open_40 rfl ?_
  refine k_cVI C ct_X1_told my_1_told ml_4_54 rfl ⟨Nat.le_of_ble_eq_true rfl, Nat.le_of_ble_eq_true rfl⟩ (recvC (b := 20) (ci := 1) rfl ⟨rfl, rfl⟩ am_39 rfl rfl) rfl (Nat.le_of_ble_eq_true rfl) dX4_open_41 hb.e (fun r3 _ => ?_)
  refine c_iast (i := 302) C rfl am_302 ak_302 rfl dX4_open_44 ?_
  refine k_aload_n (q := 0) C dX4_open_45 rfl rfl ?_
  refine c_get (b := 300) (ci := 4) (kf := 2) (N := 11) C rfl ⟨rfl, rfl⟩ am_319 rfl lay_4 kk_4_2 fl_4_9 rfl dX4_open_46 ?_
  refine k_iconst (v := 2) C dX4_open_49 rfl ?_
  refine k_aload_n (q := 0) C dX4_open_50 rfl rfl ?_
  refine c_get (b := 300) (ci := 4) (kf := 9) (N := 11) (v := .int r1) C rfl ⟨rfl, rfl⟩ am_319 rfl lay_4 kk_4_9 fl_4_34 rfl dX4_open_51 ?_
  refine c_iast (i := 302) C rfl am_302 ak_302 rfl dX4_open_54 ?_
  refine k_aload_n (q := 0) C dX4_open_55 rfl rfl ?_
  refine c_get (b := 300) (ci := 4) (kf := 2) (N := 11) C rfl ⟨rfl, rfl⟩ am_319 rfl lay_4 kk_4_2 fl_4_9 rfl dX4_open_56 ?_
  refine k_iconst (v := 4) C dX4_open_59 rfl ?_
  refine k_iload_n (q := 2) C dX4_open_60 rfl rfl ?_
  refine c_iast (i := 302) C rfl am_302 ak_302 rfl dX4_open_61 ?_
  refine k_aload_n (q := 0) C dX4_open_62 rfl rfl ?_
  refine c_get (b := 300) (ci := 4) (kf := 2) (N := 11) C rfl ⟨rfl, rfl⟩ am_319 rfl lay_4 kk_4_2 fl_4_9 rfl dX4_open_63 ?_
  refine k_iconst (v := 5) C dX4_open_66 rfl ?_
  refine k_aload_n (q := 0) C dX4_open_67 rfl rfl ?_
  refine c_get (b := 300) (ci := 4) (kf := 1) (N := 11) C rfl ⟨rfl, rfl⟩ am_319 rfl lay_4 kk_4_1 fl_4_44 rfl dX4_open_68 ?_
  refine k_iload_n (q := 1) C dX4_open_71 rfl rfl ?_
  refine k_iconst (v := 2) C dX4_open_72 rfl ?_
  refine k_cVI C ct_X1_told my_1_told ml_4_54 rfl ⟨Nat.le_of_ble_eq_true rfl, Nat.le_of_ble_eq_true rfl⟩ (recvC (b := 20) (ci := 1) rfl ⟨rfl, rfl⟩ am_39 rfl rfl) rfl (Nat.le_of_ble_eq_true rfl) dX4_open_73 hb.e (fun r4 _ => ?_)
  refine c_iast (i := 302) C rfl am_302 ak_302 rfl dX4_open_76 ?_
  refine k_aload_n (q := 0) C dX4_open_77 rfl rfl ?_
  refine c_get (b := 300) (ci := 4) (kf := 4) (N := 11) C rfl ⟨rfl, rfl⟩ am_319 rfl lay_4 kk_4_4 fl_4_18 rfl dX4_open_78 ?_
  refine k_iconst (v := (-1)) C dX4_open_81 rfl ?_
  refine k_cSV C ct_J7_fill_53178_304 my_J7_fill_53178 ml_4_58 rfl ⟨Nat.le_of_ble_eq_true rfl, Nat.le_of_ble_eq_true rfl⟩ rfl (Nat.le_of_ble_eq_true rfl) dX4_open_82 hb.e (fun r5 _ => ?_)
  refine k_aload_n (q := 0) C dX4_open_85 rfl rfl ?_
  refine k_cAV C ct_X4_forget_300 my_4_forget ml_4_64 rfl ⟨Nat.le_of_ble_eq_true rfl, Nat.le_of_ble_eq_true rfl⟩ (recvC (b := 300) (ci := 4) rfl ⟨rfl, rfl⟩ am_319 rfl rfl) rfl (Nat.le_of_ble_eq_true rfl) dX4_open_86 hb (fun r6 Y7 hr8 => ?_)
  exact k_vretA (BDb.o hb (za_forget1 (by decide) hr8)).e C ⟨rfl, _, rfl⟩ dX4_open_89
theorem ct_X4_open_300 {l : Launch} {θ : TH} {ad Y : Nat → Nat} {S : St} {Z : Zt} {F : Nat} {a1 : Int32} {a2 : Int32}  : ∀ r, f_X4_open F 300 S Z a1 a2 = some r → Ct l θ yX4_open cX4_open 3 none 3 (nd 300 Z) (9216 * nd 300 Z) [.ref (ad 319), .int a1, .int a2] (wdC θ ad Y Z S) (PVA θ ad r) :=
  fun r hr => Ct.of (by decide +kernel) (Nat.le_of_ble_eq_true rfl) (fun X _ C _ => kw_X4_open_300 C  r hr)
set_option maxRecDepth 20000 in
theorem kw_X7_hasValley {X : GX} {θ : TH} {ad Y : Nat → Nat} {Z : Zt} {S : St} {a1 : Int32} (C : CX (mE X θ (wdC θ ad Y Z S) 2) RX7 cX7_hasValley (some .boolean) 0 0 0)  : Dk (mE X θ (wdC θ ad Y Z S) 2) (mT X θ (wdC θ ad Y Z S) 2 (PI (wdC θ ad Y Z S))) 0 0 (wdC θ ad Y Z S) [(0, .ref (ad 159)), (1, .int a1)] [] 0 (f_X7_hasValley Z S a1) := by
  show Dk _ _ _ _ _ _ _ _ (if a1 < 0 then some ((0 : Int32)) else if (S.1 149) ≤ a1 then some ((0 : Int32)) else if (5 : Int32) ≤ a1 then some ((0 : Int32)) else some ((1 : Int32)))
  refine k_iload_n (q := 1) C dX7_hasValley_0 rfl rfl ?_
  refine k_if_lt (tgt := 21) C dX7_hasValley_1 (by decide) (fun _ => ?_) (fun _ => ?_)
  · refine k_iconst (v := 0) C dX7_hasValley_21 rfl ?_
    exact k_iret C rfl ⟨rfl, rfl⟩ dX7_hasValley_22
  · refine k_iload_n (q := 1) C dX7_hasValley_4 rfl rfl ?_
    refine k_aload_n (q := 0) C dX7_hasValley_5 rfl rfl ?_
    refine c_get (b := 140) (ci := 7) (kf := 9) (N := 10) (v := .int (S.1 149)) C rfl ⟨rfl, rfl⟩ am_159 rfl lay_7 kk_7_9 fl_7_43 rfl dX7_hasValley_6 ?_
    refine k_icmp_ge (tgt := 21) C dX7_hasValley_9 (by decide) (fun _ => ?_) (fun _ => ?_)
    · refine k_iconst (v := 0) C dX7_hasValley_21 rfl ?_
      exact k_iret C rfl ⟨rfl, rfl⟩ dX7_hasValley_22
    · refine k_iload_n (q := 1) C dX7_hasValley_12 rfl rfl ?_
      refine k_iconst (v := 5) C dX7_hasValley_13 rfl ?_
      refine k_icmp_ge (tgt := 21) C dX7_hasValley_14 (by decide) (fun _ => ?_) (fun _ => ?_)
      · refine k_iconst (v := 0) C dX7_hasValley_21 rfl ?_
        exact k_iret C rfl ⟨rfl, rfl⟩ dX7_hasValley_22
      · refine k_iconst (v := 1) C dX7_hasValley_17 rfl ?_
        refine k_goto (tgt := 22) C dX7_hasValley_18 (by decide) ?_
        exact k_iret C rfl ⟨rfl, rfl⟩ dX7_hasValley_22
theorem ct_X7_hasValley {l : Launch} {θ : TH} {ad Y : Nat → Nat} {S : St} {Z : Zt} {a1 : Int32}  : ∀ r, f_X7_hasValley Z S a1 = some r → Ct l θ yX7_hasValley cX7_hasValley 2 (some .boolean) 0 0 0 [.ref (ad 159), .int a1] (wdC θ ad Y Z S) (PI (wdC θ ad Y Z S) r) :=
  fun r hr => Ct.of (by decide +kernel) (Nat.le_of_ble_eq_true rfl) (fun X _ C _ => kw_X7_hasValley C  r hr)
set_option maxRecDepth 20000 in
theorem kw_J9_floorMod_7cf53 {X : GX} {θ : TH} {ws : va_W}   {a1 : Int32} {a2 : Int32} (C : CX (mE X θ (ws) 3) RJ9 cJ9_floorMod_7cf53 (some .int) 0 0 0)  : Dk (mE X θ (ws) 3) (mT X θ (ws) 3 (PI ws)) 0 0 ws [(0, .int a1), (1, .int a2)] [] 0 (f_J9_floorMod_7cf53 a1 a2) := by
  show Dk _ _ _ _ _ _ _ _ (chk (nz a2) ((if (0 : Int32) ≤ (a1 ^^^ a2) then some (jrem a1 a2) else if (jrem a1 a2) = 0 then some (jrem a1 a2) else some ((jrem a1 a2) + a2))))
  refine k_iload_n (q := 0) C dJ9_floorMod_7cf53_0 rfl rfl ?_
  refine k_iload_n (q := 1) C dJ9_floorMod_7cf53_1 rfl rfl ?_
  refine k_iremc C dJ9_floorMod_7cf53_2 ?_
  refine k_istore_n (lv' := [(2, .int (jrem a1 a2)), (0, .int a1), (1, .int a2)]) C dJ9_floorMod_7cf53_3 rfl (Nat.le_of_ble_eq_true rfl) rfl ?_
  refine k_iload_n (q := 1) C dJ9_floorMod_7cf53_4 rfl rfl ?_
  refine k_iload_n (q := 2) C dJ9_floorMod_7cf53_5 rfl rfl ?_
  refine k_ixor C dJ9_floorMod_7cf53_6 ?_
  refine k_if_ge (tgt := 18) C dJ9_floorMod_7cf53_7 (by decide) (fun _ => ?_) (fun _ => ?_)
  · refine k_iload_n (q := 0) C dJ9_floorMod_7cf53_18 rfl rfl ?_
    exact k_iret C rfl ⟨rfl, rfl⟩ dJ9_floorMod_7cf53_19
  · refine k_iload_n (q := 0) C dJ9_floorMod_7cf53_10 rfl rfl ?_
    refine k_if_eq (tgt := 18) C dJ9_floorMod_7cf53_11 (by decide) (fun _ => ?_) (fun _ => ?_)
    · refine k_iload_n (q := 0) C dJ9_floorMod_7cf53_18 rfl rfl ?_
      exact k_iret C rfl ⟨rfl, rfl⟩ dJ9_floorMod_7cf53_19
    · refine k_iload_n (q := 0) C dJ9_floorMod_7cf53_14 rfl rfl ?_
      refine k_iload_n (q := 2) C dJ9_floorMod_7cf53_15 rfl rfl ?_
      refine k_iadd C dJ9_floorMod_7cf53_16 ?_
      exact k_iret C rfl ⟨rfl, rfl⟩ dJ9_floorMod_7cf53_17
theorem ct_J9_floorMod_7cf53 {l : Launch} {θ : TH} {ws : va_W}  {a1 : Int32} {a2 : Int32}  : ∀ r, f_J9_floorMod_7cf53 a1 a2 = some r → Ct l θ yJ9_floorMod_7cf53 cJ9_floorMod_7cf53 3 (some .int) 0 0 0 [.int a1, .int a2] (ws) (PI ws r) :=
  fun r hr => Ct.ofF (by decide +kernel) (Nat.le_of_ble_eq_true rfl) (fun X _ C _ => kw_J9_floorMod_7cf53 C  r hr)
set_option maxRecDepth 20000 in
theorem kb_X7_upIn_B78 {X : GX} {θ : TH} {ad Y : Nat → Nat} {F : Nat} {Z : Zt} {S : St} {a1 : Int32} {a2 : Int32} {K15 : Int32 → Int32 → Option (Int32)} (C : CX (mE X θ (wdC θ ad Y Z S) 8) RX7 cX7_upIn (some .int) 1 0 0) (hK15 : ∀ (x3 : Int32) (x4 : Int32), Dk (mE X θ (wdC θ ad Y Z S) 8) (mT X θ (wdC θ ad Y Z S) 8 (PI (wdC θ ad Y Z S))) 0 0 (wdC θ ad Y Z S) [(0, .ref (ad 159)), (1, .int a1), (2, .int a2), (3, .int x3), (4, .int x4)] [] 15 (K15 x3 x4)) (x3 : Int32) (x4 : Int32) (x5 : Int32) (t0 : Int32) : Dk (mE X θ (wdC θ ad Y Z S) 8) (mT X θ (wdC θ ad Y Z S) 8 (PI (wdC θ ad Y Z S))) 0 0 (wdC θ ad Y Z S) [(0, .ref (ad 159)), (1, .int a1), (2, .int a2), (3, .int x3), (4, .int x4), (5, .int x5)] [.int t0] 78 (f_X7_upIn_B78 F Z S a1 a2 K15 x3 x4 x5 t0) := by
  show Dk _ _ _ _ _ _ _ _ (chk (inr x4 3) (chk (inr x5 15) ((if ((S.2.1 141 (x4).toNatClampNeg) - (S.2.1 145 (x5).toNatClampNeg)) ≤ t0 then K15 x3 (x4 + 1) else lti (x3 ||| (1 <<< (x4 &&& 31))) fun y4 => K15 y4 (x4 + 1)))))
  refine k_istore (lv' := [(7, .int t0), (0, .ref (ad 159)), (1, .int a1), (2, .int a2), (3, .int x3), (4, .int x4), (5, .int x5)]) C dX7_upIn_78 (Nat.le_of_ble_eq_true rfl) rfl ?_
  refine k_iload (q := 0) C dX7_upIn_80 rfl ?_
  refine k_aload_n (q := 1) C dX7_upIn_82 rfl rfl ?_
  refine c_get (b := 140) (ci := 7) (kf := 1) (N := 10) C rfl ⟨rfl, rfl⟩ am_159 rfl lay_7 kk_7_1 fl_7_15 rfl dX7_upIn_83 ?_
  refine k_iload (q := 5) C dX7_upIn_86 rfl ?_
  refine c_iald (i := 141) (v := S.2.1 141 (x4).toNatClampNeg) C rfl am_141 ak_141 rfl rfl dX7_upIn_88 ?_
  refine k_aload_n (q := 1) C dX7_upIn_89 rfl rfl ?_
  refine c_get (b := 140) (ci := 7) (kf := 5) (N := 10) C rfl ⟨rfl, rfl⟩ am_159 rfl lay_7 kk_7_5 fl_7_30 rfl dX7_upIn_90 ?_
  refine k_iload (q := 6) C dX7_upIn_93 rfl ?_
  refine c_iald (i := 145) (v := S.2.1 145 (x5).toNatClampNeg) C rfl am_145 ak_145 rfl rfl dX7_upIn_95 ?_
  refine k_isub C dX7_upIn_96 ?_
  refine k_icmp_ge (tgt := 107) C dX7_upIn_97 (by decide) (fun _ => ?_) (fun _ => ?_)
  · refine k_iinc (q := 5) (v := x4 + 1) (lv' := [(4, .int (x4 + 1)), (7, .int t0), (0, .ref (ad 159)), (1, .int a1), (2, .int a2), (3, .int x3), (5, .int x5)]) C dX7_upIn_107 rfl rfl (Nat.le_of_ble_eq_true rfl) rfl ?_
    refine k_goto (tgt := 15) C dX7_upIn_110 (by decide) ?_
    refine Dk.loc [2, 3, 4, 5, 0] rfl ?_
    exact hK15 _ _
  · refine k_iload_n (q := 4) C dX7_upIn_100 rfl rfl ?_
    refine k_iconst (v := 1) C dX7_upIn_101 rfl ?_
    refine k_iload (q := 5) C dX7_upIn_102 rfl ?_
    refine k_ishl C dX7_upIn_104 ?_
    refine k_ior C dX7_upIn_105 ?_
    refine k_lti fun y4 => ?_
    refine k_istore_n (lv' := [(3, .int y4), (7, .int t0), (0, .ref (ad 159)), (1, .int a1), (2, .int a2), (4, .int x4), (5, .int x5)]) C dX7_upIn_106 rfl (Nat.le_of_ble_eq_true rfl) rfl ?_
    refine k_iinc (q := 5) (v := x4 + 1) (lv' := [(4, .int (x4 + 1)), (3, .int y4), (7, .int t0), (0, .ref (ad 159)), (1, .int a1), (2, .int a2), (5, .int x5)]) C dX7_upIn_107 rfl rfl (Nat.le_of_ble_eq_true rfl) rfl ?_
    refine k_goto (tgt := 15) C dX7_upIn_110 (by decide) ?_
    refine Dk.loc [3, 4, 5, 1, 0] rfl ?_
    exact hK15 _ _
set_option maxRecDepth 20000 in
theorem kb_X7_upIn_L15 {X : GX} {θ : TH} {ad Y : Nat → Nat} {F : Nat} {Z : Zt} {S : St} {a1 : Int32} {a2 : Int32} (C : CX (mE X θ (wdC θ ad Y Z S) 8) RX7 cX7_upIn (some .int) 1 0 0)  : ∀ (n : Nat) (x3 : Int32) (x4 : Int32), Dk (mE X θ (wdC θ ad Y Z S) 8) (mT X θ (wdC θ ad Y Z S) 8 (PI (wdC θ ad Y Z S))) 0 0 (wdC θ ad Y Z S) [(0, .ref (ad 159)), (1, .int a1), (2, .int a2), (3, .int x3), (4, .int x4)] [] 15 (f_X7_upIn_L15 F Z S a1 a2 n x3 x4) := by
  intro n
  induction n with
  | zero => intro x3 x4; exact Dk.none
  | succ n ih =>
    intro x3 x4
    show Dk _ _ _ _ _ _ _ _ (if (S.1 148) ≤ x4 then some x3 else if (3 : Int32) ≤ x4 then some x3 else chk (inr x4 3) (lti (S.2.1 140 (x4).toNatClampNeg) fun y2 => (if y2 ≤ 0 then f_X7_upIn_B78 F Z S a1 a2 (f_X7_upIn_L15 F Z S a1 a2 n) x3 x4 ((a1 * 3) + x4) 0 else chk (inr x4 3) (chk (inr ((a1 * 3) + x4) 15) ((f_J9_floorMod_7cf53 ((a2 - (S.2.1 142 (x4).toNatClampNeg)) - (S.2.1 144 ((a1 * 3) + x4).toNatClampNeg)) y2).bind fun r3 => f_X7_upIn_B78 F Z S a1 a2 (f_X7_upIn_L15 F Z S a1 a2 n) x3 x4 ((a1 * 3) + x4) r3)))))
    refine k_iload (q := 4) C dX7_upIn_15 rfl ?_
    refine k_aload_n (q := 0) C dX7_upIn_17 rfl rfl ?_
    refine c_get (b := 140) (ci := 7) (kf := 8) (N := 10) (v := .int (S.1 148)) C rfl ⟨rfl, rfl⟩ am_159 rfl lay_7 kk_7_8 fl_7_39 rfl dX7_upIn_18 ?_
    refine k_icmp_ge (tgt := 113) C dX7_upIn_21 (by decide) (fun _ => ?_) (fun _ => ?_)
    · refine k_iload_n (q := 3) C dX7_upIn_113 rfl rfl ?_
      exact k_iret C rfl ⟨rfl, rfl⟩ dX7_upIn_114
    · refine k_iload (q := 4) C dX7_upIn_24 rfl ?_
      refine k_iconst (v := 3) C dX7_upIn_26 rfl ?_
      refine k_icmp_ge (tgt := 113) C dX7_upIn_27 (by decide) (fun _ => ?_) (fun _ => ?_)
      · refine k_iload_n (q := 3) C dX7_upIn_113 rfl rfl ?_
        exact k_iret C rfl ⟨rfl, rfl⟩ dX7_upIn_114
      · refine k_iload_n (q := 1) C dX7_upIn_30 rfl rfl ?_
        refine k_iconst (v := 3) C dX7_upIn_31 rfl ?_
        refine k_imul C dX7_upIn_32 ?_
        refine k_iload (q := 4) C dX7_upIn_33 rfl ?_
        refine k_iadd C dX7_upIn_35 ?_
        refine k_istore (lv' := [(5, .int ((a1 * 3) + x4)), (0, .ref (ad 159)), (1, .int a1), (2, .int a2), (3, .int x3), (4, .int x4)]) C dX7_upIn_36 (Nat.le_of_ble_eq_true rfl) rfl ?_
        refine k_aload_n (q := 1) C dX7_upIn_38 rfl rfl ?_
        refine c_get (b := 140) (ci := 7) (kf := 0) (N := 10) C rfl ⟨rfl, rfl⟩ am_159 rfl lay_7 kk_7_0 fl_7_9 rfl dX7_upIn_39 ?_
        refine k_iload (q := 5) C dX7_upIn_42 rfl ?_
        refine c_iald (i := 140) (v := S.2.1 140 (x4).toNatClampNeg) C rfl am_140 ak_140 rfl rfl dX7_upIn_44 ?_
        refine k_lti fun y2 => ?_
        refine k_istore (lv' := [(6, .int y2), (5, .int ((a1 * 3) + x4)), (0, .ref (ad 159)), (1, .int a1), (2, .int a2), (3, .int x3), (4, .int x4)]) C dX7_upIn_45 (Nat.le_of_ble_eq_true rfl) rfl ?_
        refine k_iload (q := 0) C dX7_upIn_47 rfl ?_
        refine k_if_le (tgt := 77) C dX7_upIn_49 (by decide) (fun _ => ?_) (fun _ => ?_)
        · refine k_iconst (v := 0) C dX7_upIn_77 rfl ?_
          refine Dk.loc [2, 3, 4, 5, 6, 1] rfl ?_
          exact kb_X7_upIn_B78 C ih _ _ _ _
        · refine k_iload_n (q := 4) C dX7_upIn_52 rfl rfl ?_
          refine k_aload_n (q := 2) C dX7_upIn_53 rfl rfl ?_
          refine c_get (b := 140) (ci := 7) (kf := 2) (N := 10) C rfl ⟨rfl, rfl⟩ am_159 rfl lay_7 kk_7_2 fl_7_18 rfl dX7_upIn_54 ?_
          refine k_iload (q := 6) C dX7_upIn_57 rfl ?_
          refine c_iald (i := 142) (v := S.2.1 142 (x4).toNatClampNeg) C rfl am_142 ak_142 rfl rfl dX7_upIn_59 ?_
          refine k_isub C dX7_upIn_60 ?_
          refine k_aload_n (q := 2) C dX7_upIn_61 rfl rfl ?_
          refine c_get (b := 140) (ci := 7) (kf := 4) (N := 10) C rfl ⟨rfl, rfl⟩ am_159 rfl lay_7 kk_7_4 fl_7_27 rfl dX7_upIn_62 ?_
          refine k_iload (q := 1) C dX7_upIn_65 rfl ?_
          refine c_iald (i := 144) (v := S.2.1 144 ((a1 * 3) + x4).toNatClampNeg) C rfl am_144 ak_144 rfl rfl dX7_upIn_67 ?_
          refine k_isub C dX7_upIn_68 ?_
          refine k_iload (q := 0) C dX7_upIn_69 rfl ?_
          refine k_cSI C ct_J9_floorMod_7cf53 my_J9_floorMod_7cf53 ml_7_59 rfl ⟨Nat.le_of_ble_eq_true rfl, Nat.le_of_ble_eq_true rfl⟩ rfl (Nat.le_of_ble_eq_true rfl) dX7_upIn_71 ⟨Nat.le_refl _, Nat.le_refl _⟩ (fun r3 _ => ?_)
          refine k_goto (tgt := 78) C dX7_upIn_74 (by decide) ?_
          refine Dk.loc [2, 3, 4, 5, 6, 1] rfl ?_
          exact kb_X7_upIn_B78 C ih _ _ _ _
set_option maxRecDepth 20000 in
theorem kw_X7_upIn {X : GX} {θ : TH} {ad Y : Nat → Nat} {F : Nat} {Z : Zt} {S : St} {a1 : Int32} {a2 : Int32} (C : CX (mE X θ (wdC θ ad Y Z S) 8) RX7 cX7_upIn (some .int) 1 0 0)  : Dk (mE X θ (wdC θ ad Y Z S) 8) (mT X θ (wdC θ ad Y Z S) 8 (PI (wdC θ ad Y Z S))) 0 0 (wdC θ ad Y Z S) [(0, .ref (ad 159)), (1, .int a1), (2, .int a2)] [] 0 (f_X7_upIn F Z S a1 a2) := by
  show Dk _ _ _ _ _ _ _ _ ((f_X7_hasValley Z S a1).bind fun r1 => (if r1 = 0 then some ((0 : Int32)) else f_X7_upIn_L15 F Z S a1 a2 F 0 0))
  refine k_aload_n (q := 0) C dX7_upIn_0 rfl rfl ?_
  refine k_iload_n (q := 1) C dX7_upIn_1 rfl rfl ?_
  refine k_cVI C ct_X7_hasValley my_7_hasValley ml_7_46 rfl ⟨Nat.le_of_ble_eq_true rfl, Nat.le_of_ble_eq_true rfl⟩ (recvC (b := 140) (ci := 7) rfl ⟨rfl, rfl⟩ am_159 rfl rfl) rfl (Nat.le_of_ble_eq_true rfl) dX7_upIn_2 ⟨Nat.le_refl _, Nat.le_refl _⟩ (fun r1 _ => ?_)
  refine k_if_ne (tgt := 10) C dX7_upIn_5 (by decide) (fun _ => ?_) (fun _ => ?_)
  · refine k_iconst (v := 0) C dX7_upIn_10 rfl ?_
    refine k_istore_n (lv' := [(3, .int 0), (0, .ref (ad 159)), (1, .int a1), (2, .int a2)]) C dX7_upIn_11 rfl (Nat.le_of_ble_eq_true rfl) rfl ?_
    refine k_iconst (v := 0) C dX7_upIn_12 rfl ?_
    refine k_istore (lv' := [(4, .int 0), (3, .int 0), (0, .ref (ad 159)), (1, .int a1), (2, .int a2)]) C dX7_upIn_13 (Nat.le_of_ble_eq_true rfl) rfl ?_
    refine Dk.loc [2, 3, 4, 1, 0] rfl ?_
    exact kb_X7_upIn_L15 C _ _ _
  · refine k_iconst (v := 0) C dX7_upIn_8 rfl ?_
    exact k_iret C rfl ⟨rfl, rfl⟩ dX7_upIn_9
theorem ct_X7_upIn {l : Launch} {θ : TH} {ad Y : Nat → Nat} {S : St} {F : Nat} {Z : Zt} {a1 : Int32} {a2 : Int32}  : ∀ r, f_X7_upIn F Z S a1 a2 = some r → Ct l θ yX7_upIn cX7_upIn 8 (some .int) 1 0 0 [.ref (ad 159), .int a1, .int a2] (wdC θ ad Y Z S) (PI (wdC θ ad Y Z S) r) :=
  fun r hr => Ct.of (by decide +kernel) (Nat.le_of_ble_eq_true rfl) (fun X _ C _ => kw_X7_upIn C  r hr)
set_option maxRecDepth 20000 in
theorem kw_X4_upAt_80 {X : GX} {θ : TH} {ad Y : Nat → Nat} {F : Nat} {Z : Zt} {S : St} {a1 : Int32} (C : CX (mE X θ (wdC θ ad Y Z S) 3) RX4 cX4_upAt (some .int) 2 0 0)  : Dk (mE X θ (wdC θ ad Y Z S) 3) (mT X θ (wdC θ ad Y Z S) 3 (PIS (wdC θ ad Y Z))) 0 0 (wdC θ ad Y Z S) [(0, .ref (ad 99)), (1, .int a1)] [] 0 (f_X4_upAt F 80 Z S a1) := by
  show Dk _ _ _ _ _ _ _ _ (chk (inr (a1 &&& 63) 64) ((if (S.2.1 84 (a1 &&& 63).toNatClampNeg) = a1 then chk (inr (a1 &&& 63) 64) (some (S.2.1 85 (a1 &&& 63).toNatClampNeg, S)) else chk (inr (a1 &&& 63) 64) ((f_X7_upIn F Z (sa S 84 (a1 &&& 63).toNatClampNeg a1) (S.1 88) a1).bind fun r1 => chk (inr (a1 &&& 63) 64) (chk (inr (a1 &&& 63) 64) (some ((sa (sa S 84 (a1 &&& 63).toNatClampNeg a1) 85 (a1 &&& 63).toNatClampNeg r1).2.1 85 (a1 &&& 63).toNatClampNeg, sa (sa S 84 (a1 &&& 63).toNatClampNeg a1) 85 (a1 &&& 63).toNatClampNeg r1)))))))
  refine k_iload_n (q := 1) C dX4_upAt_0 rfl rfl ?_
  refine k_bipush (v := 63) C dX4_upAt_1 rfl ?_
  refine k_iand C dX4_upAt_3 ?_
  refine k_istore_n (lv' := [(2, .int (a1 &&& 63)), (0, .ref (ad 99)), (1, .int a1)]) C dX4_upAt_4 rfl (Nat.le_of_ble_eq_true rfl) rfl ?_
  refine k_aload_n (q := 1) C dX4_upAt_5 rfl rfl ?_
  refine c_get (b := 80) (ci := 4) (kf := 4) (N := 11) C rfl ⟨rfl, rfl⟩ am_99 rfl lay_4 kk_4_4 fl_4_18 rfl dX4_upAt_6 ?_
  refine k_iload_n (q := 0) C dX4_upAt_9 rfl rfl ?_
  refine c_iald (i := 84) (v := S.2.1 84 (a1 &&& 63).toNatClampNeg) C rfl am_84 ak_84 rfl rfl dX4_upAt_10 ?_
  refine k_iload_n (q := 2) C dX4_upAt_11 rfl rfl ?_
  refine k_icmp_eq (tgt := 40) C dX4_upAt_12 (by decide) (fun _ => ?_) (fun _ => ?_)
  · refine k_aload_n (q := 1) C dX4_upAt_40 rfl rfl ?_
    refine c_get (b := 80) (ci := 4) (kf := 5) (N := 11) C rfl ⟨rfl, rfl⟩ am_99 rfl lay_4 kk_4_5 fl_4_21 rfl dX4_upAt_41 ?_
    refine k_iload_n (q := 0) C dX4_upAt_44 rfl rfl ?_
    refine c_iald (i := 85) (v := S.2.1 85 (a1 &&& 63).toNatClampNeg) C rfl am_85 ak_85 rfl rfl dX4_upAt_45 ?_
    exact k_iret C rfl ⟨rfl, rfl⟩ dX4_upAt_46
  · refine k_aload_n (q := 1) C dX4_upAt_15 rfl rfl ?_
    refine c_get (b := 80) (ci := 4) (kf := 4) (N := 11) C rfl ⟨rfl, rfl⟩ am_99 rfl lay_4 kk_4_4 fl_4_18 rfl dX4_upAt_16 ?_
    refine k_iload_n (q := 0) C dX4_upAt_19 rfl rfl ?_
    refine k_iload_n (q := 2) C dX4_upAt_20 rfl rfl ?_
    refine c_iast (i := 84) C rfl am_84 ak_84 rfl dX4_upAt_21 ?_
    refine k_aload_n (q := 1) C dX4_upAt_22 rfl rfl ?_
    refine c_get (b := 80) (ci := 4) (kf := 5) (N := 11) C rfl ⟨rfl, rfl⟩ am_99 rfl lay_4 kk_4_5 fl_4_21 rfl dX4_upAt_23 ?_
    refine k_iload_n (q := 0) C dX4_upAt_26 rfl rfl ?_
    refine k_aload_n (q := 1) C dX4_upAt_27 rfl rfl ?_
    refine c_get (b := 80) (ci := 4) (kf := 0) (N := 11) C rfl ⟨rfl, rfl⟩ am_99 rfl lay_4 kk_4_0 fl_4_40 rfl dX4_upAt_28 ?_
    refine k_aload_n (q := 1) C dX4_upAt_31 rfl rfl ?_
    refine c_get (b := 80) (ci := 4) (kf := 8) (N := 11) (v := .int (S.1 88)) C rfl ⟨rfl, rfl⟩ am_99 rfl lay_4 kk_4_8 fl_4_31 rfl dX4_upAt_32 ?_
    refine k_iload_n (q := 2) C dX4_upAt_35 rfl rfl ?_
    refine k_cVI C ct_X7_upIn my_7_upIn ml_4_68 rfl ⟨Nat.le_of_ble_eq_true rfl, Nat.le_of_ble_eq_true rfl⟩ (recvC (b := 140) (ci := 7) rfl ⟨rfl, rfl⟩ am_159 rfl rfl) rfl (Nat.le_of_ble_eq_true rfl) dX4_upAt_36 ⟨Nat.le_refl _, Nat.le_refl _⟩ (fun r1 _ => ?_)
    refine c_iast (i := 85) C rfl am_85 ak_85 rfl dX4_upAt_39 ?_
    refine k_aload_n (q := 1) C dX4_upAt_40 rfl rfl ?_
    refine c_get (b := 80) (ci := 4) (kf := 5) (N := 11) C rfl ⟨rfl, rfl⟩ am_99 rfl lay_4 kk_4_5 fl_4_21 rfl dX4_upAt_41 ?_
    refine k_iload_n (q := 0) C dX4_upAt_44 rfl rfl ?_
    refine c_iald (i := 85) (v := (sa (sa S 84 (a1 &&& 63).toNatClampNeg a1) 85 (a1 &&& 63).toNatClampNeg r1).2.1 85 (a1 &&& 63).toNatClampNeg) C rfl am_85 ak_85 rfl rfl dX4_upAt_45 ?_
    exact k_iret C rfl ⟨rfl, rfl⟩ dX4_upAt_46
