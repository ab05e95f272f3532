set_option maxRecDepth 20000 in
theorem kc10_28 : Cond.constant RX10 28 41984 ∈ jtb := j_in2 (i := 11) rfl rfl
set_option maxRecDepth 20000 in
theorem kc12_256 : Cond.constant RX12 256 1048576 ∈ jtb := j_in7 (i := 3) rfl rfl
set_option maxRecDepth 20000 in
theorem kc10_41 : Cond.constantLong RX10 41 1152921504606846975 ∈ jtb := j_in3 (i := 141) rfl rfl
set_option maxRecDepth 20000 in
theorem fl0_16 : jfl RX0 16 0 1 := ⟨RX0, TX0, 4, rfl, by decide, inX0, j_in2 (i := 24) rfl rfl⟩
set_option maxRecDepth 20000 in
theorem fl0_20 : jfl RX0 20 0 3 := ⟨RX0, TX0, 4, rfl, by decide, inX0, j_in2 (i := 27) rfl rfl⟩
set_option maxRecDepth 20000 in
theorem fl0_24 : jfl RX0 24 0 0 := ⟨RX0, TX0, 4, rfl, by decide, inX0, j_in2 (i := 23) rfl rfl⟩
set_option maxRecDepth 20000 in
theorem fl0_28 : jfl RX0 28 0 2 := ⟨RX0, TX0, 4, rfl, by decide, inX0, j_in2 (i := 26) rfl rfl⟩
set_option maxRecDepth 20000 in
theorem fl0_47 : jfl RX0 47 6 0 := ⟨RX6, TX6, 2, rfl, by decide, inX6, j_in1 (i := 35) rfl rfl⟩
set_option maxRecDepth 20000 in
theorem fl0_65 : jfl RX0 65 6 1 := ⟨RX6, TX6, 2, rfl, by decide, inX6, j_in1 (i := 41) rfl rfl⟩
set_option maxRecDepth 20000 in
theorem fl1_13 : jfl RX1 13 1 1 := ⟨RX1, TX1, 3, rfl, by decide, inX1, j_in1 (i := 128) rfl rfl⟩
set_option maxRecDepth 20000 in
theorem fl1_16 : jfl RX1 16 1 2 := ⟨RX1, TX1, 3, rfl, by decide, inX1, j_in1 (i := 130) rfl rfl⟩
set_option maxRecDepth 20000 in
theorem fl1_9 : jfl RX1 9 1 0 := ⟨RX1, TX1, 3, rfl, by decide, inX1, j_in1 (i := 126) rfl rfl⟩
set_option maxRecDepth 20000 in
theorem fl2_11 : jfl RX2 11 2 0 := ⟨RX2, TX2, 3, rfl, by decide, inX2, j_in1 (i := 58) rfl rfl⟩
set_option maxRecDepth 20000 in
theorem fl2_18 : jfl RX2 18 2 1 := ⟨RX2, TX2, 3, rfl, by decide, inX2, j_in1 (i := 59) rfl rfl⟩
set_option maxRecDepth 20000 in
theorem fl2_22 : jfl RX2 22 2 2 := ⟨RX2, TX2, 3, rfl, by decide, inX2, j_in1 (i := 60) rfl rfl⟩
set_option maxRecDepth 20000 in
theorem fl3_15 : jfl RX3 15 3 1 := ⟨RX3, TX3, 2, rfl, by decide, inX3, j_in1 (i := 148) rfl rfl⟩
set_option maxRecDepth 20000 in
theorem fl3_9 : jfl RX3 9 3 0 := ⟨RX3, TX3, 2, rfl, by decide, inX3, j_in1 (i := 145) rfl rfl⟩
set_option maxRecDepth 20000 in
theorem fl4_102 : jfl RX4 102 3 1 := ⟨RX3, TX3, 2, rfl, by decide, inX3, j_in1 (i := 149) rfl rfl⟩
set_option maxRecDepth 20000 in
theorem fl4_122 : jfl RX4 122 4 6 := ⟨RX4, TX4, 15, rfl, by decide, inX4, j_in1 (i := 194) rfl rfl⟩
set_option maxRecDepth 20000 in
theorem fl4_148 : jfl RX4 148 6 0 := ⟨RX6, TX6, 2, rfl, by decide, inX6, j_in1 (i := 36) rfl rfl⟩
set_option maxRecDepth 20000 in
theorem fl4_15 : jfl RX4 15 4 5 := ⟨RX4, TX4, 15, rfl, by decide, inX4, j_in1 (i := 192) rfl rfl⟩
set_option maxRecDepth 20000 in
theorem fl4_163 : jfl RX4 163 7 2 := ⟨RX7, TX7, 4, rfl, by decide, inX7, j_in1 (i := 82) rfl rfl⟩
set_option maxRecDepth 20000 in
theorem fl4_21 : jfl RX4 21 4 7 := ⟨RX4, TX4, 15, rfl, by decide, inX4, j_in1 (i := 196) rfl rfl⟩
set_option maxRecDepth 20000 in
theorem fl4_25 : jfl RX4 25 4 8 := ⟨RX4, TX4, 15, rfl, by decide, inX4, j_in1 (i := 198) rfl rfl⟩
set_option maxRecDepth 20000 in
theorem fl4_28 : jfl RX4 28 4 10 := ⟨RX4, TX4, 15, rfl, by decide, inX4, j_in1 (i := 200) rfl rfl⟩
set_option maxRecDepth 20000 in
theorem fl4_31 : jfl RX4 31 4 11 := ⟨RX4, TX4, 15, rfl, by decide, inX4, j_in1 (i := 201) rfl rfl⟩
set_option maxRecDepth 20000 in
theorem fl4_34 : jfl RX4 34 4 0 := ⟨RX4, TX4, 15, rfl, by decide, inX4, j_in1 (i := 186) rfl rfl⟩
set_option maxRecDepth 20000 in
theorem fl4_38 : jfl RX4 38 4 1 := ⟨RX4, TX4, 15, rfl, by decide, inX4, j_in1 (i := 187) rfl rfl⟩
set_option maxRecDepth 20000 in
theorem fl4_42 : jfl RX4 42 4 2 := ⟨RX4, TX4, 15, rfl, by decide, inX4, j_in1 (i := 188) rfl rfl⟩
set_option maxRecDepth 20000 in
theorem fl4_46 : jfl RX4 46 4 3 := ⟨RX4, TX4, 15, rfl, by decide, inX4, j_in1 (i := 189) rfl rfl⟩
set_option maxRecDepth 20000 in
theorem fl4_57 : jfl RX4 57 4 14 := ⟨RX4, TX4, 15, rfl, by decide, inX4, j_in1 (i := 204) rfl rfl⟩
set_option maxRecDepth 20000 in
theorem fl4_82 : jfl RX4 82 4 12 := ⟨RX4, TX4, 15, rfl, by decide, inX4, j_in1 (i := 202) rfl rfl⟩
set_option maxRecDepth 20000 in
theorem fl4_85 : jfl RX4 85 4 9 := ⟨RX4, TX4, 15, rfl, by decide, inX4, j_in1 (i := 199) rfl rfl⟩
set_option maxRecDepth 20000 in
theorem fl4_9 : jfl RX4 9 4 4 := ⟨RX4, TX4, 15, rfl, by decide, inX4, j_in1 (i := 190) rfl rfl⟩
set_option maxRecDepth 20000 in
theorem fl4_93 : jfl RX4 93 4 13 := ⟨RX4, TX4, 15, rfl, by decide, inX4, j_in1 (i := 203) rfl rfl⟩
set_option maxRecDepth 20000 in
theorem fl5_11 : jfl RX5 11 5 2 := ⟨RX5, TX5, 4, rfl, by decide, inX5, j_in2 (i := 47) rfl rfl⟩
set_option maxRecDepth 20000 in
theorem fl5_20 : jfl RX5 20 5 3 := ⟨RX5, TX5, 4, rfl, by decide, inX5, j_in2 (i := 49) rfl rfl⟩
set_option maxRecDepth 20000 in
theorem fl5_24 : jfl RX5 24 5 0 := ⟨RX5, TX5, 4, rfl, by decide, inX5, j_in2 (i := 45) rfl rfl⟩
set_option maxRecDepth 20000 in
theorem fl5_28 : jfl RX5 28 5 1 := ⟨RX5, TX5, 4, rfl, by decide, inX5, j_in2 (i := 46) rfl rfl⟩
set_option maxRecDepth 20000 in
theorem fl5_32 : jfl RX5 32 3 1 := ⟨RX3, TX3, 2, rfl, by decide, inX3, j_in1 (i := 147) rfl rfl⟩
set_option maxRecDepth 20000 in
theorem fl5_69 : jfl RX5 69 6 1 := ⟨RX6, TX6, 2, rfl, by decide, inX6, j_in1 (i := 39) rfl rfl⟩
set_option maxRecDepth 20000 in
theorem fl5_74 : jfl RX5 74 6 0 := ⟨RX6, TX6, 2, rfl, by decide, inX6, j_in1 (i := 32) rfl rfl⟩
set_option maxRecDepth 20000 in
theorem fl6_37 : jfl RX6 37 6 1 := ⟨RX6, TX6, 2, rfl, by decide, inX6, j_in1 (i := 42) rfl rfl⟩
set_option maxRecDepth 20000 in
theorem fl6_9 : jfl RX6 9 6 0 := ⟨RX6, TX6, 2, rfl, by decide, inX6, j_in1 (i := 30) rfl rfl⟩
set_option maxRecDepth 20000 in
theorem fl7_15 : jfl RX7 15 7 2 := ⟨RX7, TX7, 4, rfl, by decide, inX7, j_in1 (i := 79) rfl rfl⟩
set_option maxRecDepth 20000 in
theorem fl7_18 : jfl RX7 18 7 3 := ⟨RX7, TX7, 4, rfl, by decide, inX7, j_in1 (i := 83) rfl rfl⟩
set_option maxRecDepth 20000 in
theorem fl7_21 : jfl RX7 21 7 0 := ⟨RX7, TX7, 4, rfl, by decide, inX7, j_in1 (i := 75) rfl rfl⟩
set_option maxRecDepth 20000 in
theorem fl7_45 : jfl RX7 45 6 1 := ⟨RX6, TX6, 2, rfl, by decide, inX6, j_in1 (i := 40) rfl rfl⟩
set_option maxRecDepth 20000 in
theorem fl7_50 : jfl RX7 50 6 0 := ⟨RX6, TX6, 2, rfl, by decide, inX6, j_in1 (i := 33) rfl rfl⟩
set_option maxRecDepth 20000 in
theorem fl7_9 : jfl RX7 9 7 1 := ⟨RX7, TX7, 4, rfl, by decide, inX7, j_in1 (i := 77) rfl rfl⟩
set_option maxRecDepth 20000 in
theorem fl8_15 : jfl RX8 15 8 3 := ⟨RX8, TX8, 6, rfl, by decide, inX8, j_in1 (i := 103) rfl rfl⟩
set_option maxRecDepth 20000 in
theorem fl8_18 : jfl RX8 18 8 4 := ⟨RX8, TX8, 6, rfl, by decide, inX8, j_in1 (i := 104) rfl rfl⟩
set_option maxRecDepth 20000 in
theorem fl8_21 : jfl RX8 21 8 0 := ⟨RX8, TX8, 6, rfl, by decide, inX8, j_in1 (i := 99) rfl rfl⟩
set_option maxRecDepth 20000 in
theorem fl8_25 : jfl RX8 25 8 1 := ⟨RX8, TX8, 6, rfl, by decide, inX8, j_in1 (i := 100) rfl rfl⟩
set_option maxRecDepth 20000 in
theorem fl8_29 : jfl RX8 29 6 1 := ⟨RX6, TX6, 2, rfl, by decide, inX6, j_in1 (i := 37) rfl rfl⟩
set_option maxRecDepth 20000 in
theorem fl8_35 : jfl RX8 35 6 0 := ⟨RX6, TX6, 2, rfl, by decide, inX6, j_in1 (i := 31) rfl rfl⟩
set_option maxRecDepth 20000 in
theorem fl8_46 : jfl RX8 46 8 5 := ⟨RX8, TX8, 6, rfl, by decide, inX8, j_in1 (i := 105) rfl rfl⟩
set_option maxRecDepth 20000 in
theorem fl8_62 : jfl RX8 62 7 2 := ⟨RX7, TX7, 4, rfl, by decide, inX7, j_in1 (i := 80) rfl rfl⟩
set_option maxRecDepth 20000 in
theorem fl8_9 : jfl RX8 9 8 2 := ⟨RX8, TX8, 6, rfl, by decide, inX8, j_in1 (i := 101) rfl rfl⟩
set_option maxRecDepth 20000 in
theorem fl9_15 : jfl RX9 15 9 1 := ⟨RX9, TX9, 4, rfl, by decide, inX9, j_in1 (i := 170) rfl rfl⟩
set_option maxRecDepth 20000 in
theorem fl9_18 : jfl RX9 18 9 2 := ⟨RX9, TX9, 4, rfl, by decide, inX9, j_in1 (i := 172) rfl rfl⟩
set_option maxRecDepth 20000 in
theorem fl9_21 : jfl RX9 21 9 3 := ⟨RX9, TX9, 4, rfl, by decide, inX9, j_in1 (i := 174) rfl rfl⟩
set_option maxRecDepth 20000 in
theorem fl9_9 : jfl RX9 9 9 0 := ⟨RX9, TX9, 4, rfl, by decide, inX9, j_in1 (i := 168) rfl rfl⟩
set_option maxRecDepth 20000 in
theorem fl10_17 : jfl RX10 17 10 0 := ⟨RX10, TX10, 3, rfl, by decide, inX10, j_in2 (i := 12) rfl rfl⟩
set_option maxRecDepth 20000 in
theorem fl10_21 : jfl RX10 21 10 1 := ⟨RX10, TX10, 3, rfl, by decide, inX10, j_in2 (i := 13) rfl rfl⟩
set_option maxRecDepth 20000 in
theorem fl10_25 : jfl RX10 25 10 2 := ⟨RX10, TX10, 3, rfl, by decide, inX10, j_in2 (i := 14) rfl rfl⟩
set_option maxRecDepth 20000 in
theorem fl11_112 : jfl RX11 112 6 1 := ⟨RX6, TX6, 2, rfl, by decide, inX6, j_in1 (i := 38) rfl rfl⟩
set_option maxRecDepth 20000 in
theorem fl11_12 : jfl RX11 12 11 0 := ⟨RX11, TX11, 10, rfl, by decide, inX11, j_in2 (i := 115) rfl rfl⟩
set_option maxRecDepth 20000 in
theorem fl11_136 : jfl RX11 136 6 0 := ⟨RX6, TX6, 2, rfl, by decide, inX6, j_in1 (i := 34) rfl rfl⟩
set_option maxRecDepth 20000 in
theorem fl11_150 : jfl RX11 150 7 0 := ⟨RX7, TX7, 4, rfl, by decide, inX7, j_in1 (i := 76) rfl rfl⟩
set_option maxRecDepth 20000 in
theorem fl11_156 : jfl RX11 156 7 1 := ⟨RX7, TX7, 4, rfl, by decide, inX7, j_in1 (i := 78) rfl rfl⟩
set_option maxRecDepth 20000 in
theorem fl11_159 : jfl RX11 159 7 2 := ⟨RX7, TX7, 4, rfl, by decide, inX7, j_in1 (i := 81) rfl rfl⟩
set_option maxRecDepth 20000 in
theorem fl11_162 : jfl RX11 162 8 2 := ⟨RX8, TX8, 6, rfl, by decide, inX8, j_in1 (i := 102) rfl rfl⟩
set_option maxRecDepth 20000 in
theorem fl11_179 : jfl RX11 179 0 1 := ⟨RX0, TX0, 4, rfl, by decide, inX0, j_in2 (i := 25) rfl rfl⟩
set_option maxRecDepth 20000 in
theorem fl11_19 : jfl RX11 19 11 1 := ⟨RX11, TX11, 10, rfl, by decide, inX11, j_in2 (i := 116) rfl rfl⟩
set_option maxRecDepth 20000 in
theorem fl11_195 : jfl RX11 195 8 5 := ⟨RX8, TX8, 6, rfl, by decide, inX8, j_in1 (i := 106) rfl rfl⟩
set_option maxRecDepth 20000 in
theorem fl11_237 : jfl RX11 237 2 2 := ⟨RX2, TX2, 3, rfl, by decide, inX2, j_in1 (i := 61) rfl rfl⟩
set_option maxRecDepth 20000 in
theorem fl11_243 : jfl RX11 243 4 4 := ⟨RX4, TX4, 15, rfl, by decide, inX4, j_in1 (i := 191) rfl rfl⟩
set_option maxRecDepth 20000 in
theorem fl11_249 : jfl RX11 249 3 1 := ⟨RX3, TX3, 2, rfl, by decide, inX3, j_in1 (i := 150) rfl rfl⟩
set_option maxRecDepth 20000 in
theorem fl11_255 : jfl RX11 255 3 0 := ⟨RX3, TX3, 2, rfl, by decide, inX3, j_in1 (i := 146) rfl rfl⟩
set_option maxRecDepth 20000 in
theorem fl11_26 : jfl RX11 26 11 2 := ⟨RX11, TX11, 10, rfl, by decide, inX11, j_in2 (i := 117) rfl rfl⟩
set_option maxRecDepth 20000 in
theorem fl11_272 : jfl RX11 272 4 6 := ⟨RX4, TX4, 15, rfl, by decide, inX4, j_in1 (i := 195) rfl rfl⟩
set_option maxRecDepth 20000 in
theorem fl11_275 : jfl RX11 275 4 5 := ⟨RX4, TX4, 15, rfl, by decide, inX4, j_in1 (i := 193) rfl rfl⟩
set_option maxRecDepth 20000 in
theorem fl11_278 : jfl RX11 278 4 7 := ⟨RX4, TX4, 15, rfl, by decide, inX4, j_in1 (i := 197) rfl rfl⟩
set_option maxRecDepth 20000 in
theorem fl11_282 : jfl RX11 282 9 3 := ⟨RX9, TX9, 4, rfl, by decide, inX9, j_in1 (i := 176) rfl rfl⟩
set_option maxRecDepth 20000 in
theorem fl11_286 : jfl RX11 286 9 0 := ⟨RX9, TX9, 4, rfl, by decide, inX9, j_in1 (i := 169) rfl rfl⟩
set_option maxRecDepth 20000 in
theorem fl11_289 : jfl RX11 289 9 1 := ⟨RX9, TX9, 4, rfl, by decide, inX9, j_in1 (i := 171) rfl rfl⟩
set_option maxRecDepth 20000 in
theorem fl11_292 : jfl RX11 292 9 2 := ⟨RX9, TX9, 4, rfl, by decide, inX9, j_in1 (i := 173) rfl rfl⟩
set_option maxRecDepth 20000 in
theorem fl11_295 : jfl RX11 295 5 2 := ⟨RX5, TX5, 4, rfl, by decide, inX5, j_in2 (i := 48) rfl rfl⟩
set_option maxRecDepth 20000 in
theorem fl11_30 : jfl RX11 30 11 3 := ⟨RX11, TX11, 10, rfl, by decide, inX11, j_in2 (i := 118) rfl rfl⟩
set_option maxRecDepth 20000 in
theorem fl11_301 : jfl RX11 301 5 3 := ⟨RX5, TX5, 4, rfl, by decide, inX5, j_in2 (i := 50) rfl rfl⟩
set_option maxRecDepth 20000 in
theorem fl11_302 : jfl RX11 302 1 2 := ⟨RX1, TX1, 3, rfl, by decide, inX1, j_in1 (i := 131) rfl rfl⟩
set_option maxRecDepth 20000 in
theorem fl11_306 : jfl RX11 306 1 0 := ⟨RX1, TX1, 3, rfl, by decide, inX1, j_in1 (i := 127) rfl rfl⟩
set_option maxRecDepth 20000 in
theorem fl11_307 : jfl RX11 307 1 1 := ⟨RX1, TX1, 3, rfl, by decide, inX1, j_in1 (i := 129) rfl rfl⟩
set_option maxRecDepth 20000 in
theorem fl11_38 : jfl RX11 38 11 4 := ⟨RX11, TX11, 10, rfl, by decide, inX11, j_in2 (i := 119) rfl rfl⟩
set_option maxRecDepth 20000 in
theorem fl11_45 : jfl RX11 45 11 5 := ⟨RX11, TX11, 10, rfl, by decide, inX11, j_in2 (i := 120) rfl rfl⟩
set_option maxRecDepth 20000 in
theorem fl11_52 : jfl RX11 52 11 6 := ⟨RX11, TX11, 10, rfl, by decide, inX11, j_in2 (i := 121) rfl rfl⟩
set_option maxRecDepth 20000 in
theorem fl11_61 : jfl RX11 61 11 7 := ⟨RX11, TX11, 10, rfl, by decide, inX11, j_in2 (i := 122) rfl rfl⟩
set_option maxRecDepth 20000 in
theorem fl11_70 : jfl RX11 70 11 8 := ⟨RX11, TX11, 10, rfl, by decide, inX11, j_in2 (i := 123) rfl rfl⟩
set_option maxRecDepth 20000 in
theorem fl11_79 : jfl RX11 79 11 9 := ⟨RX11, TX11, 10, rfl, by decide, inX11, j_in2 (i := 124) rfl rfl⟩
set_option maxRecDepth 20000 in
theorem fl12_100 : jfl RX12 100 12 50 := ⟨RX12, TX12, 56, rfl, by decide, inX12, j_in5 (i := 159) rfl rfl⟩
set_option maxRecDepth 20000 in
theorem fl12_103 : jfl RX12 103 12 51 := ⟨RX12, TX12, 56, rfl, by decide, inX12, j_in5 (i := 160) rfl rfl⟩
set_option maxRecDepth 20000 in
theorem fl12_106 : jfl RX12 106 12 52 := ⟨RX12, TX12, 56, rfl, by decide, inX12, j_in5 (i := 161) rfl rfl⟩
set_option maxRecDepth 20000 in
theorem fl12_109 : jfl RX12 109 12 53 := ⟨RX12, TX12, 56, rfl, by decide, inX12, j_in5 (i := 162) rfl rfl⟩
set_option maxRecDepth 20000 in
theorem fl12_112 : jfl RX12 112 12 54 := ⟨RX12, TX12, 56, rfl, by decide, inX12, j_in5 (i := 163) rfl rfl⟩
set_option maxRecDepth 20000 in
theorem fl12_115 : jfl RX12 115 12 55 := ⟨RX12, TX12, 56, rfl, by decide, inX12, j_in5 (i := 164) rfl rfl⟩
set_option maxRecDepth 20000 in
theorem fl12_123 : jfl RX12 123 12 0 := ⟨RX12, TX12, 56, rfl, by decide, inX12, j_in5 (i := 109) rfl rfl⟩
set_option maxRecDepth 20000 in
theorem fl12_13 : jfl RX12 13 12 2 := ⟨RX12, TX12, 56, rfl, by decide, inX12, j_in5 (i := 111) rfl rfl⟩
set_option maxRecDepth 20000 in
theorem fl12_132 : jfl RX12 132 12 4 := ⟨RX12, TX12, 56, rfl, by decide, inX12, j_in5 (i := 113) rfl rfl⟩
set_option maxRecDepth 20000 in
theorem fl12_142 : jfl RX12 142 12 13 := ⟨RX12, TX12, 56, rfl, by decide, inX12, j_in5 (i := 122) rfl rfl⟩
set_option maxRecDepth 20000 in
theorem fl12_146 : jfl RX12 146 12 9 := ⟨RX12, TX12, 56, rfl, by decide, inX12, j_in5 (i := 118) rfl rfl⟩
set_option maxRecDepth 20000 in
theorem fl12_16 : jfl RX12 16 12 3 := ⟨RX12, TX12, 56, rfl, by decide, inX12, j_in5 (i := 112) rfl rfl⟩
set_option maxRecDepth 20000 in
theorem fl12_183 : jfl RX12 183 12 17 := ⟨RX12, TX12, 56, rfl, by decide, inX12, j_in5 (i := 126) rfl rfl⟩
set_option maxRecDepth 20000 in
theorem fl12_186 : jfl RX12 186 12 14 := ⟨RX12, TX12, 56, rfl, by decide, inX12, j_in5 (i := 123) rfl rfl⟩
set_option maxRecDepth 20000 in
theorem fl12_189 : jfl RX12 189 12 18 := ⟨RX12, TX12, 56, rfl, by decide, inX12, j_in5 (i := 127) rfl rfl⟩
set_option maxRecDepth 20000 in
theorem fl12_19 : jfl RX12 19 12 5 := ⟨RX12, TX12, 56, rfl, by decide, inX12, j_in5 (i := 114) rfl rfl⟩
set_option maxRecDepth 20000 in
theorem fl12_212 : jfl RX12 212 12 24 := ⟨RX12, TX12, 56, rfl, by decide, inX12, j_in5 (i := 133) rfl rfl⟩
set_option maxRecDepth 20000 in
theorem fl12_22 : jfl RX12 22 12 6 := ⟨RX12, TX12, 56, rfl, by decide, inX12, j_in5 (i := 115) rfl rfl⟩
set_option maxRecDepth 20000 in
theorem fl12_244 : jfl RX12 244 12 25 := ⟨RX12, TX12, 56, rfl, by decide, inX12, j_in5 (i := 134) rfl rfl⟩
set_option maxRecDepth 20000 in
theorem fl12_247 : jfl RX12 247 12 26 := ⟨RX12, TX12, 56, rfl, by decide, inX12, j_in5 (i := 135) rfl rfl⟩
set_option maxRecDepth 20000 in
theorem fl12_25 : jfl RX12 25 12 7 := ⟨RX12, TX12, 56, rfl, by decide, inX12, j_in5 (i := 116) rfl rfl⟩
set_option maxRecDepth 20000 in
theorem fl12_250 : jfl RX12 250 12 27 := ⟨RX12, TX12, 56, rfl, by decide, inX12, j_in5 (i := 136) rfl rfl⟩
set_option maxRecDepth 20000 in
theorem fl12_253 : jfl RX12 253 12 28 := ⟨RX12, TX12, 56, rfl, by decide, inX12, j_in5 (i := 137) rfl rfl⟩
set_option maxRecDepth 20000 in
theorem fl12_28 : jfl RX12 28 12 8 := ⟨RX12, TX12, 56, rfl, by decide, inX12, j_in5 (i := 117) rfl rfl⟩
set_option maxRecDepth 20000 in
theorem fl12_287 : jfl RX12 287 12 33 := ⟨RX12, TX12, 56, rfl, by decide, inX12, j_in5 (i := 142) rfl rfl⟩
set_option maxRecDepth 20000 in
theorem fl12_290 : jfl RX12 290 12 36 := ⟨RX12, TX12, 56, rfl, by decide, inX12, j_in5 (i := 145) rfl rfl⟩
set_option maxRecDepth 20000 in
theorem fl12_293 : jfl RX12 293 12 37 := ⟨RX12, TX12, 56, rfl, by decide, inX12, j_in5 (i := 146) rfl rfl⟩
set_option maxRecDepth 20000 in
theorem fl12_296 : jfl RX12 296 12 38 := ⟨RX12, TX12, 56, rfl, by decide, inX12, j_in5 (i := 147) rfl rfl⟩
set_option maxRecDepth 20000 in
theorem fl12_299 : jfl RX12 299 12 39 := ⟨RX12, TX12, 56, rfl, by decide, inX12, j_in5 (i := 148) rfl rfl⟩
set_option maxRecDepth 20000 in
theorem fl12_302 : jfl RX12 302 12 41 := ⟨RX12, TX12, 56, rfl, by decide, inX12, j_in5 (i := 150) rfl rfl⟩
set_option maxRecDepth 20000 in
theorem fl12_305 : jfl RX12 305 12 42 := ⟨RX12, TX12, 56, rfl, by decide, inX12, j_in5 (i := 151) rfl rfl⟩
set_option maxRecDepth 20000 in
theorem fl12_31 : jfl RX12 31 12 10 := ⟨RX12, TX12, 56, rfl, by decide, inX12, j_in5 (i := 119) rfl rfl⟩
set_option maxRecDepth 20000 in
theorem fl12_332 : jfl RX12 332 12 45 := ⟨RX12, TX12, 56, rfl, by decide, inX12, j_in5 (i := 154) rfl rfl⟩
set_option maxRecDepth 20000 in
theorem fl12_34 : jfl RX12 34 12 11 := ⟨RX12, TX12, 56, rfl, by decide, inX12, j_in5 (i := 120) rfl rfl⟩
set_option maxRecDepth 20000 in
theorem fl12_37 : jfl RX12 37 12 12 := ⟨RX12, TX12, 56, rfl, by decide, inX12, j_in5 (i := 121) rfl rfl⟩
set_option maxRecDepth 20000 in
theorem fl12_40 : jfl RX12 40 12 15 := ⟨RX12, TX12, 56, rfl, by decide, inX12, j_in5 (i := 124) rfl rfl⟩
set_option maxRecDepth 20000 in
theorem fl12_43 : jfl RX12 43 12 16 := ⟨RX12, TX12, 56, rfl, by decide, inX12, j_in5 (i := 125) rfl rfl⟩
set_option maxRecDepth 20000 in
theorem fl12_46 : jfl RX12 46 12 19 := ⟨RX12, TX12, 56, rfl, by decide, inX12, j_in5 (i := 128) rfl rfl⟩
set_option maxRecDepth 20000 in
theorem fl12_49 : jfl RX12 49 12 20 := ⟨RX12, TX12, 56, rfl, by decide, inX12, j_in5 (i := 129) rfl rfl⟩
set_option maxRecDepth 20000 in
theorem fl12_52 : jfl RX12 52 12 21 := ⟨RX12, TX12, 56, rfl, by decide, inX12, j_in5 (i := 130) rfl rfl⟩
set_option maxRecDepth 20000 in
theorem fl12_55 : jfl RX12 55 12 22 := ⟨RX12, TX12, 56, rfl, by decide, inX12, j_in5 (i := 131) rfl rfl⟩
set_option maxRecDepth 20000 in
theorem fl12_58 : jfl RX12 58 12 23 := ⟨RX12, TX12, 56, rfl, by decide, inX12, j_in5 (i := 132) rfl rfl⟩
set_option maxRecDepth 20000 in
theorem fl12_61 : jfl RX12 61 12 29 := ⟨RX12, TX12, 56, rfl, by decide, inX12, j_in5 (i := 138) rfl rfl⟩
set_option maxRecDepth 20000 in
theorem fl12_64 : jfl RX12 64 12 30 := ⟨RX12, TX12, 56, rfl, by decide, inX12, j_in5 (i := 139) rfl rfl⟩
set_option maxRecDepth 20000 in
theorem fl12_67 : jfl RX12 67 12 31 := ⟨RX12, TX12, 56, rfl, by decide, inX12, j_in5 (i := 140) rfl rfl⟩
set_option maxRecDepth 20000 in
theorem fl12_70 : jfl RX12 70 12 32 := ⟨RX12, TX12, 56, rfl, by decide, inX12, j_in5 (i := 141) rfl rfl⟩
set_option maxRecDepth 20000 in
theorem fl12_73 : jfl RX12 73 12 34 := ⟨RX12, TX12, 56, rfl, by decide, inX12, j_in5 (i := 143) rfl rfl⟩
set_option maxRecDepth 20000 in
theorem fl12_76 : jfl RX12 76 12 35 := ⟨RX12, TX12, 56, rfl, by decide, inX12, j_in5 (i := 144) rfl rfl⟩
set_option maxRecDepth 20000 in
theorem fl12_79 : jfl RX12 79 12 40 := ⟨RX12, TX12, 56, rfl, by decide, inX12, j_in5 (i := 149) rfl rfl⟩
set_option maxRecDepth 20000 in
theorem fl12_82 : jfl RX12 82 12 43 := ⟨RX12, TX12, 56, rfl, by decide, inX12, j_in5 (i := 152) rfl rfl⟩
set_option maxRecDepth 20000 in
theorem fl12_85 : jfl RX12 85 12 44 := ⟨RX12, TX12, 56, rfl, by decide, inX12, j_in5 (i := 153) rfl rfl⟩
set_option maxRecDepth 20000 in
theorem fl12_88 : jfl RX12 88 12 46 := ⟨RX12, TX12, 56, rfl, by decide, inX12, j_in5 (i := 155) rfl rfl⟩
set_option maxRecDepth 20000 in
theorem fl12_9 : jfl RX12 9 12 1 := ⟨RX12, TX12, 56, rfl, by decide, inX12, j_in5 (i := 110) rfl rfl⟩
set_option maxRecDepth 20000 in
theorem fl12_91 : jfl RX12 91 12 47 := ⟨RX12, TX12, 56, rfl, by decide, inX12, j_in5 (i := 156) rfl rfl⟩
set_option maxRecDepth 20000 in
theorem fl12_94 : jfl RX12 94 12 48 := ⟨RX12, TX12, 56, rfl, by decide, inX12, j_in5 (i := 157) rfl rfl⟩
set_option maxRecDepth 20000 in
theorem fl12_97 : jfl RX12 97 12 49 := ⟨RX12, TX12, 56, rfl, by decide, inX12, j_in5 (i := 158) rfl rfl⟩
set_option maxRecDepth 20000 in
theorem fq0_20 : jfq RX0 20 0 3 .int := ⟨RX0, TX0, 4, tyX0, rfl, by decide, inX0, j_in2 (i := 27) rfl rfl, tyX0_ok, nmX0, rfl, by decide +kernel⟩
set_option maxRecDepth 20000 in
theorem fq0_28 : jfq RX0 28 0 2 .boolean := ⟨RX0, TX0, 4, tyX0, rfl, by decide, inX0, j_in2 (i := 26) rfl rfl, tyX0_ok, nmX0, rfl, by decide +kernel⟩
set_option maxRecDepth 20000 in
theorem fq1_16 : jfq RX1 16 1 2 .int := ⟨RX1, TX1, 3, tyX1, rfl, by decide, inX1, j_in1 (i := 130) rfl rfl, tyX1_ok, nmX1, rfl, by decide +kernel⟩
set_option maxRecDepth 20000 in
theorem fq2_18 : jfq RX2 18 2 1 .int := ⟨RX2, TX2, 3, tyX2, rfl, by decide, inX2, j_in1 (i := 59) rfl rfl, tyX2_ok, nmX2, rfl, by decide +kernel⟩
set_option maxRecDepth 20000 in
theorem fq2_22 : jfq RX2 22 2 2 .int := ⟨RX2, TX2, 3, tyX2, rfl, by decide, inX2, j_in1 (i := 60) rfl rfl, tyX2_ok, nmX2, rfl, by decide +kernel⟩
set_option maxRecDepth 20000 in
theorem fq3_15 : jfq RX3 15 3 1 .int := ⟨RX3, TX3, 2, tyX3, rfl, by decide, inX3, j_in1 (i := 148) rfl rfl, tyX3_ok, nmX3, rfl, by decide +kernel⟩
set_option maxRecDepth 20000 in
theorem fq4_122 : jfq RX4 122 4 6 .int := ⟨RX4, TX4, 15, tyX4, rfl, by decide, inX4, j_in1 (i := 194) rfl rfl, tyX4_ok, nmX4, rfl, by decide +kernel⟩
set_option maxRecDepth 20000 in
theorem fq4_125 : jfq RX4 125 9 3 .int := ⟨RX9, TX9, 4, tyX9, rfl, by decide, inX9, j_in1 (i := 175) rfl rfl, tyX9_ok, nmX9, rfl, by decide +kernel⟩
set_option maxRecDepth 20000 in
theorem fq4_57 : jfq RX4 57 4 14 .int := ⟨RX4, TX4, 15, tyX4, rfl, by decide, inX4, j_in1 (i := 204) rfl rfl, tyX4_ok, nmX4, rfl, by decide +kernel⟩
set_option maxRecDepth 20000 in
theorem fq4_82 : jfq RX4 82 4 12 .int := ⟨RX4, TX4, 15, tyX4, rfl, by decide, inX4, j_in1 (i := 202) rfl rfl, tyX4_ok, nmX4, rfl, by decide +kernel⟩
set_option maxRecDepth 20000 in
theorem fq4_85 : jfq RX4 85 4 9 .int := ⟨RX4, TX4, 15, tyX4, rfl, by decide, inX4, j_in1 (i := 199) rfl rfl, tyX4_ok, nmX4, rfl, by decide +kernel⟩
set_option maxRecDepth 20000 in
theorem fq4_93 : jfq RX4 93 4 13 .int := ⟨RX4, TX4, 15, tyX4, rfl, by decide, inX4, j_in1 (i := 203) rfl rfl, tyX4_ok, nmX4, rfl, by decide +kernel⟩
set_option maxRecDepth 20000 in
theorem fq6_37 : jfq RX6 37 6 1 .int := ⟨RX6, TX6, 2, tyX6, rfl, by decide, inX6, j_in1 (i := 42) rfl rfl, tyX6_ok, nmX6, rfl, by decide +kernel⟩
set_option maxRecDepth 20000 in
theorem fq7_21 : jfq RX7 21 7 0 .int := ⟨RX7, TX7, 4, tyX7, rfl, by decide, inX7, j_in1 (i := 75) rfl rfl, tyX7_ok, nmX7, rfl, by decide +kernel⟩
set_option maxRecDepth 20000 in
theorem fq8_46 : jfq RX8 46 8 5 .int := ⟨RX8, TX8, 6, tyX8, rfl, by decide, inX8, j_in1 (i := 105) rfl rfl, tyX8_ok, nmX8, rfl, by decide +kernel⟩
set_option maxRecDepth 20000 in
theorem fq9_21 : jfq RX9 21 9 3 .int := ⟨RX9, TX9, 4, tyX9, rfl, by decide, inX9, j_in1 (i := 174) rfl rfl, tyX9_ok, nmX9, rfl, by decide +kernel⟩
set_option maxRecDepth 20000 in
theorem fq11_249 : jfq RX11 249 3 1 .int := ⟨RX3, TX3, 2, tyX3, rfl, by decide, inX3, j_in1 (i := 150) rfl rfl, tyX3_ok, nmX3, rfl, by decide +kernel⟩
set_option maxRecDepth 20000 in
theorem fq12_115 : jfq RX12 115 12 55 .int := ⟨RX12, TX12, 56, tyX12, rfl, by decide, inX12, j_in5 (i := 164) rfl rfl, tyX12_ok, nmX12, rfl, by decide +kernel⟩
set_option maxRecDepth 20000 in
theorem fq12_123 : jfq RX12 123 12 0 .int := ⟨RX12, TX12, 56, tyX12, rfl, by decide, inX12, j_in5 (i := 109) rfl rfl, tyX12_ok, nmX12, rfl, by decide +kernel⟩
set_option maxRecDepth 20000 in
theorem fq12_132 : jfq RX12 132 12 4 .int := ⟨RX12, TX12, 56, tyX12, rfl, by decide, inX12, j_in5 (i := 113) rfl rfl, tyX12_ok, nmX12, rfl, by decide +kernel⟩
set_option maxRecDepth 20000 in
theorem fq12_142 : jfq RX12 142 12 13 .boolean := ⟨RX12, TX12, 56, tyX12, rfl, by decide, inX12, j_in5 (i := 122) rfl rfl, tyX12_ok, nmX12, rfl, by decide +kernel⟩
set_option maxRecDepth 20000 in
theorem fq12_146 : jfq RX12 146 12 9 .int := ⟨RX12, TX12, 56, tyX12, rfl, by decide, inX12, j_in5 (i := 118) rfl rfl, tyX12_ok, nmX12, rfl, by decide +kernel⟩
set_option maxRecDepth 20000 in
theorem fq12_183 : jfq RX12 183 12 17 .boolean := ⟨RX12, TX12, 56, tyX12, rfl, by decide, inX12, j_in5 (i := 126) rfl rfl, tyX12_ok, nmX12, rfl, by decide +kernel⟩
set_option maxRecDepth 20000 in
theorem fq12_186 : jfq RX12 186 12 14 .int := ⟨RX12, TX12, 56, tyX12, rfl, by decide, inX12, j_in5 (i := 123) rfl rfl, tyX12_ok, nmX12, rfl, by decide +kernel⟩
set_option maxRecDepth 20000 in
theorem fq12_189 : jfq RX12 189 12 18 .int := ⟨RX12, TX12, 56, tyX12, rfl, by decide, inX12, j_in5 (i := 127) rfl rfl, tyX12_ok, nmX12, rfl, by decide +kernel⟩
set_option maxRecDepth 20000 in
theorem fq12_212 : jfq RX12 212 12 24 .int := ⟨RX12, TX12, 56, tyX12, rfl, by decide, inX12, j_in5 (i := 133) rfl rfl, tyX12_ok, nmX12, rfl, by decide +kernel⟩
set_option maxRecDepth 20000 in
theorem fq12_244 : jfq RX12 244 12 25 .int := ⟨RX12, TX12, 56, tyX12, rfl, by decide, inX12, j_in5 (i := 134) rfl rfl, tyX12_ok, nmX12, rfl, by decide +kernel⟩
set_option maxRecDepth 20000 in
theorem fq12_247 : jfq RX12 247 12 26 .int := ⟨RX12, TX12, 56, tyX12, rfl, by decide, inX12, j_in5 (i := 135) rfl rfl, tyX12_ok, nmX12, rfl, by decide +kernel⟩
set_option maxRecDepth 20000 in
theorem fq12_250 : jfq RX12 250 12 27 .int := ⟨RX12, TX12, 56, tyX12, rfl, by decide, inX12, j_in5 (i := 136) rfl rfl, tyX12_ok, nmX12, rfl, by decide +kernel⟩
set_option maxRecDepth 20000 in
theorem fq12_253 : jfq RX12 253 12 28 .int := ⟨RX12, TX12, 56, tyX12, rfl, by decide, inX12, j_in5 (i := 137) rfl rfl, tyX12_ok, nmX12, rfl, by decide +kernel⟩
set_option maxRecDepth 20000 in
theorem fq12_287 : jfq RX12 287 12 33 .int := ⟨RX12, TX12, 56, tyX12, rfl, by decide, inX12, j_in5 (i := 142) rfl rfl, tyX12_ok, nmX12, rfl, by decide +kernel⟩
set_option maxRecDepth 20000 in
theorem fq12_290 : jfq RX12 290 12 36 .int := ⟨RX12, TX12, 56, tyX12, rfl, by decide, inX12, j_in5 (i := 145) rfl rfl, tyX12_ok, nmX12, rfl, by decide +kernel⟩
set_option maxRecDepth 20000 in
theorem fq12_293 : jfq RX12 293 12 37 .int := ⟨RX12, TX12, 56, tyX12, rfl, by decide, inX12, j_in5 (i := 146) rfl rfl, tyX12_ok, nmX12, rfl, by decide +kernel⟩
set_option maxRecDepth 20000 in
theorem fq12_296 : jfq RX12 296 12 38 .int := ⟨RX12, TX12, 56, tyX12, rfl, by decide, inX12, j_in5 (i := 147) rfl rfl, tyX12_ok, nmX12, rfl, by decide +kernel⟩
set_option maxRecDepth 20000 in
theorem fq12_299 : jfq RX12 299 12 39 .int := ⟨RX12, TX12, 56, tyX12, rfl, by decide, inX12, j_in5 (i := 148) rfl rfl, tyX12_ok, nmX12, rfl, by decide +kernel⟩
set_option maxRecDepth 20000 in
theorem fq12_302 : jfq RX12 302 12 41 .int := ⟨RX12, TX12, 56, tyX12, rfl, by decide, inX12, j_in5 (i := 150) rfl rfl, tyX12_ok, nmX12, rfl, by decide +kernel⟩
set_option maxRecDepth 20000 in
theorem fq12_305 : jfq RX12 305 12 42 .int := ⟨RX12, TX12, 56, tyX12, rfl, by decide, inX12, j_in5 (i := 151) rfl rfl, tyX12_ok, nmX12, rfl, by decide +kernel⟩
set_option maxRecDepth 20000 in
theorem fq12_332 : jfq RX12 332 12 45 .int := ⟨RX12, TX12, 56, tyX12, rfl, by decide, inX12, j_in5 (i := 154) rfl rfl, tyX12_ok, nmX12, rfl, by decide +kernel⟩
set_option maxRecDepth 20000 in
theorem kj2_25 : Cond.methodLink RX2 25 Lib.Math.min.name ∈ jtb := j_in2 (i := 184) rfl rfl
set_option maxRecDepth 20000 in
theorem kj5_38 : Cond.methodLink RX5 38 Lib.Math.min.name ∈ jtb := j_in5 (i := 48) rfl rfl
set_option maxRecDepth 20000 in
theorem kj6_32 : Cond.methodLink RX6 32 Lib.Math.min.name ∈ jtb := j_in4 (i := 49) rfl rfl
set_option maxRecDepth 20000 in
theorem kj6_41 : Cond.methodLink RX6 41 arraycopyName ∈ jtb := j_in2 (i := 191) rfl rfl
set_option maxRecDepth 20000 in
theorem kj6_64 : Cond.methodLink RX6 64 Lib.Math.max.name ∈ jtb := j_in4 (i := 50) rfl rfl
set_option maxRecDepth 20000 in
theorem kj7_25 : Cond.methodLink RX7 25 arraycopyName ∈ jtb := j_in2 (i := 112) rfl rfl
set_option maxRecDepth 20000 in
theorem kj9_25 : Cond.methodLink RX9 25 Lib.Math.min.name ∈ jtb := j_in4 (i := 173) rfl rfl
set_option maxRecDepth 20000 in
theorem kj9_35 : Cond.methodLink RX9 35 Lib.Math.max.name ∈ jtb := j_in4 (i := 178) rfl rfl
set_option maxRecDepth 20000 in
theorem mn4_168 : jmn RX4 168 yX11_bit cX11_bit 2 (some .int) 2 RX11 := ⟨List.mem_of_getElem? (i := 9) rfl, j_in2 (i := 84) rfl rfl, j_in1 (i := 1) rfl rfl, by decide +kernel, j_in2 (i := 83) rfl rfl⟩
set_option maxRecDepth 20000 in
theorem mn6_58 : jmn RX6 58 yX11_bit cX11_bit 2 (some .int) 2 RX11 := ⟨List.mem_of_getElem? (i := 8) rfl, j_in2 (i := 84) rfl rfl, j_in1 (i := 1) rfl rfl, by decide +kernel, j_in2 (i := 83) rfl rfl⟩
set_option maxRecDepth 20000 in
theorem mn7_31 : jmn RX7 31 yX11_bit cX11_bit 2 (some .int) 2 RX11 := ⟨List.mem_of_getElem? (i := 6) rfl, j_in2 (i := 84) rfl rfl, j_in1 (i := 1) rfl rfl, by decide +kernel, j_in2 (i := 83) rfl rfl⟩
set_option maxRecDepth 20000 in
theorem mn8_68 : jmn RX8 68 yX11_bit cX11_bit 2 (some .int) 2 RX11 := ⟨List.mem_of_getElem? (i := 7) rfl, j_in2 (i := 84) rfl rfl, j_in1 (i := 1) rfl rfl, by decide +kernel, j_in2 (i := 83) rfl rfl⟩
set_option maxRecDepth 20000 in
theorem ms0_101 : jms RX0 101 yX0_startingTail cX0_startingTail 2 (some .int) 2 := ⟨⟨j_in4 (i := 5) rfl rfl, j_in4 (i := 7) rfl rfl, j_in1 (i := 10) rfl rfl, by decide +kernel⟩, j_in4 (i := 6) rfl rfl⟩
set_option maxRecDepth 20000 in
theorem ms0_51 : jms RX0 51 yX6_leftOf cX6_leftOf 1 (some .int) 1 := ⟨⟨j_in3 (i := 146) rfl rfl, j_in2 (i := 87) rfl rfl, j_in1 (i := 2) rfl rfl, by decide +kernel⟩, j_in2 (i := 86) rfl rfl⟩
set_option maxRecDepth 20000 in
theorem ms0_74 : jms RX0 74 yX0_plainTail cX0_plainTail 2 (some .int) 2 := ⟨⟨j_in3 (i := 117) rfl rfl, j_in3 (i := 119) rfl rfl, j_in1 (i := 10) rfl rfl, by decide +kernel⟩, j_in3 (i := 118) rfl rfl⟩
set_option maxRecDepth 20000 in
theorem ms0_82 : jms RX0 82 yX6_lengthOf cX6_lengthOf 1 (some .int) 1 := ⟨⟨j_in3 (i := 116) rfl rfl, j_in2 (i := 74) rfl rfl, j_in1 (i := 2) rfl rfl, by decide +kernel⟩, j_in2 (i := 73) rfl rfl⟩
set_option maxRecDepth 20000 in
theorem ms0_88 : jms RX0 88 yX6_symbolOf cX6_symbolOf 2 (some .int) 2 := ⟨⟨j_in3 (i := 124) rfl rfl, j_in2 (i := 77) rfl rfl, j_in1 (i := 2) rfl rfl, by decide +kernel⟩, j_in2 (i := 76) rfl rfl⟩
set_option maxRecDepth 20000 in
theorem ms4_151 : jms RX4 151 yX6_lengthOf cX6_lengthOf 1 (some .int) 1 := ⟨⟨j_in4 (i := 205) rfl rfl, j_in2 (i := 74) rfl rfl, j_in1 (i := 2) rfl rfl, by decide +kernel⟩, j_in2 (i := 73) rfl rfl⟩
set_option maxRecDepth 20000 in
theorem ms4_154 : jms RX4 154 yX6_symbolOf cX6_symbolOf 2 (some .int) 2 := ⟨⟨j_in4 (i := 206) rfl rfl, j_in2 (i := 77) rfl rfl, j_in1 (i := 2) rfl rfl, by decide +kernel⟩, j_in2 (i := 76) rfl rfl⟩
set_option maxRecDepth 20000 in
theorem ms5_48 : jms RX5 48 yX5_wordOf cX5_wordOf 3 (some .int) 3 := ⟨⟨j_in5 (i := 57) rfl rfl, j_in5 (i := 59) rfl rfl, j_in1 (i := 13) rfl rfl, by decide +kernel⟩, j_in5 (i := 58) rfl rfl⟩
set_option maxRecDepth 20000 in
theorem ms5_91 : jms RX5 91 yX6_lengthOf cX6_lengthOf 1 (some .int) 1 := ⟨⟨j_in5 (i := 68) rfl rfl, j_in2 (i := 74) rfl rfl, j_in1 (i := 2) rfl rfl, by decide +kernel⟩, j_in2 (i := 73) rfl rfl⟩
set_option maxRecDepth 20000 in
theorem ms5_92 : jms RX5 92 yX6_symbolOf cX6_symbolOf 2 (some .int) 2 := ⟨⟨j_in5 (i := 69) rfl rfl, j_in2 (i := 77) rfl rfl, j_in1 (i := 2) rfl rfl, by decide +kernel⟩, j_in2 (i := 76) rfl rfl⟩
set_option maxRecDepth 20000 in
theorem ms5_99 : jms RX5 99 yX6_leftOf cX6_leftOf 1 (some .int) 1 := ⟨⟨j_in5 (i := 79) rfl rfl, j_in2 (i := 87) rfl rfl, j_in1 (i := 2) rfl rfl, by decide +kernel⟩, j_in2 (i := 86) rfl rfl⟩
set_option maxRecDepth 20000 in
theorem ms6_15 : jms RX6 15 yX6_leftOf cX6_leftOf 1 (some .int) 1 := ⟨⟨j_in3 (i := 207) rfl rfl, j_in2 (i := 87) rfl rfl, j_in1 (i := 2) rfl rfl, by decide +kernel⟩, j_in2 (i := 86) rfl rfl⟩
set_option maxRecDepth 20000 in
theorem ms6_19 : jms RX6 19 yX6_lengthOf cX6_lengthOf 1 (some .int) 1 := ⟨⟨j_in2 (i := 159) rfl rfl, j_in2 (i := 74) rfl rfl, j_in1 (i := 2) rfl rfl, by decide +kernel⟩, j_in2 (i := 73) rfl rfl⟩
set_option maxRecDepth 20000 in
theorem ms6_22 : jms RX6 22 yX6_symbolOf cX6_symbolOf 2 (some .int) 2 := ⟨⟨j_in3 (i := 59) rfl rfl, j_in2 (i := 77) rfl rfl, j_in1 (i := 2) rfl rfl, by decide +kernel⟩, j_in2 (i := 76) rfl rfl⟩
set_option maxRecDepth 20000 in
theorem ms6_26 : jms RX6 26 yX6_extended cX6_extended 3 (some .int) 2 := ⟨⟨j_in2 (i := 160) rfl rfl, j_in2 (i := 162) rfl rfl, j_in1 (i := 2) rfl rfl, by decide +kernel⟩, j_in2 (i := 161) rfl rfl⟩
set_option maxRecDepth 20000 in
theorem ms6_29 : jms RX6 29 yX6_emptyOf cX6_emptyOf 1 (some .int) 1 := ⟨⟨j_in4 (i := 77) rfl rfl, j_in2 (i := 155) rfl rfl, j_in1 (i := 2) rfl rfl, by decide +kernel⟩, j_in2 (i := 154) rfl rfl⟩
set_option maxRecDepth 20000 in
theorem ms6_47 : jms RX6 47 yX6_isOf cX6_isOf 2 (some .boolean) 2 := ⟨⟨j_in4 (i := 45) rfl rfl, j_in3 (i := 206) rfl rfl, j_in1 (i := 2) rfl rfl, by decide +kernel⟩, j_in3 (i := 205) rfl rfl⟩
set_option maxRecDepth 20000 in
theorem ms6_51 : jms RX6 51 yX6_isRecursive cX6_isRecursive 1 (some .boolean) 1 := ⟨⟨j_in4 (i := 90) rfl rfl, j_in4 (i := 92) rfl rfl, j_in1 (i := 2) rfl rfl, by decide +kernel⟩, j_in4 (i := 91) rfl rfl⟩
set_option maxRecDepth 20000 in
theorem ms6_55 : jms RX6 55 yX6_nonterminalsIn cX6_nonterminalsIn 4 (some .int) 1 := ⟨⟨j_in4 (i := 55) rfl rfl, j_in3 (i := 58) rfl rfl, j_in1 (i := 2) rfl rfl, by decide +kernel⟩, j_in3 (i := 57) rfl rfl⟩
set_option maxRecDepth 20000 in
theorem ms6_67 : jms RX6 67 yX6_commonPrefix cX6_commonPrefix 4 (some .int) 2 := ⟨⟨j_in4 (i := 46) rfl rfl, j_in4 (i := 48) rfl rfl, j_in1 (i := 2) rfl rfl, by decide +kernel⟩, j_in4 (i := 47) rfl rfl⟩
set_option maxRecDepth 20000 in
theorem ms6_76 : jms RX6 76 yX6_prefixOf cX6_prefixOf 4 (some .int) 2 := ⟨⟨j_in4 (i := 74) rfl rfl, j_in4 (i := 76) rfl rfl, j_in1 (i := 2) rfl rfl, by decide +kernel⟩, j_in4 (i := 75) rfl rfl⟩
set_option maxRecDepth 20000 in
theorem ms6_83 : jms RX6 83 yX6_suffixOf cX6_suffixOf 5 (some .int) 3 := ⟨⟨j_in4 (i := 79) rfl rfl, j_in4 (i := 81) rfl rfl, j_in1 (i := 2) rfl rfl, by decide +kernel⟩, j_in4 (i := 80) rfl rfl⟩
set_option maxRecDepth 20000 in
theorem ms7_57 : jms RX7 57 yX6_leftOf cX6_leftOf 1 (some .int) 1 := ⟨⟨j_in2 (i := 85) rfl rfl, j_in2 (i := 87) rfl rfl, j_in1 (i := 2) rfl rfl, by decide +kernel⟩, j_in2 (i := 86) rfl rfl⟩
set_option maxRecDepth 20000 in
theorem ms7_68 : jms RX7 68 yX6_lengthOf cX6_lengthOf 1 (some .int) 1 := ⟨⟨j_in2 (i := 72) rfl rfl, j_in2 (i := 74) rfl rfl, j_in1 (i := 2) rfl rfl, by decide +kernel⟩, j_in2 (i := 73) rfl rfl⟩
set_option maxRecDepth 20000 in
theorem ms7_71 : jms RX7 71 yX6_symbolOf cX6_symbolOf 2 (some .int) 2 := ⟨⟨j_in2 (i := 75) rfl rfl, j_in2 (i := 77) rfl rfl, j_in1 (i := 2) rfl rfl, by decide +kernel⟩, j_in2 (i := 76) rfl rfl⟩
set_option maxRecDepth 20000 in
theorem ms7_80 : jms RX7 80 yX6_nonterminalsIn cX6_nonterminalsIn 4 (some .int) 1 := ⟨⟨j_in3 (i := 56) rfl rfl, j_in3 (i := 58) rfl rfl, j_in1 (i := 2) rfl rfl, by decide +kernel⟩, j_in3 (i := 57) rfl rfl⟩
set_option maxRecDepth 20000 in
theorem ms8_65 : jms RX8 65 yX6_leftOf cX6_leftOf 1 (some .int) 1 := ⟨⟨j_in2 (i := 210) rfl rfl, j_in2 (i := 87) rfl rfl, j_in1 (i := 2) rfl rfl, by decide +kernel⟩, j_in2 (i := 86) rfl rfl⟩
set_option maxRecDepth 20000 in
theorem ms8_77 : jms RX8 77 yX8_conflictOf cX8_conflictOf 4 (some .int) 3 := ⟨⟨j_in3 (i := 208) rfl rfl, j_in3 (i := 210) rfl rfl, j_in1 (i := 5) rfl rfl, by decide +kernel⟩, j_in3 (i := 209) rfl rfl⟩
set_option maxRecDepth 20000 in
theorem ms8_81 : jms RX8 81 yX6_isOf cX6_isOf 2 (some .boolean) 2 := ⟨⟨j_in3 (i := 204) rfl rfl, j_in3 (i := 206) rfl rfl, j_in1 (i := 2) rfl rfl, by decide +kernel⟩, j_in3 (i := 205) rfl rfl⟩
set_option maxRecDepth 20000 in
theorem ms8_84 : jms RX8 84 yX8_partOf cX8_partOf 2 (some .int) 2 := ⟨⟨j_in3 (i := 222) rfl rfl, j_in3 (i := 213) rfl rfl, j_in1 (i := 5) rfl rfl, by decide +kernel⟩, j_in3 (i := 212) rfl rfl⟩
set_option maxRecDepth 20000 in
theorem ms11_140 : jms RX11 140 yX6_leftOf cX6_leftOf 1 (some .int) 1 := ⟨⟨j_in3 (i := 12) rfl rfl, j_in2 (i := 87) rfl rfl, j_in1 (i := 2) rfl rfl, by decide +kernel⟩, j_in2 (i := 86) rfl rfl⟩
set_option maxRecDepth 20000 in
theorem ms11_143 : jms RX11 143 yX6_lengthOf cX6_lengthOf 1 (some .int) 1 := ⟨⟨j_in3 (i := 17) rfl rfl, j_in2 (i := 74) rfl rfl, j_in1 (i := 2) rfl rfl, by decide +kernel⟩, j_in2 (i := 73) rfl rfl⟩
set_option maxRecDepth 20000 in
theorem ms11_146 : jms RX11 146 yX6_symbolOf cX6_symbolOf 2 (some .int) 2 := ⟨⟨j_in3 (i := 22) rfl rfl, j_in2 (i := 77) rfl rfl, j_in1 (i := 2) rfl rfl, by decide +kernel⟩, j_in2 (i := 76) rfl rfl⟩
set_option maxRecDepth 20000 in
theorem ms11_153 : jms RX11 153 yX11_bit cX11_bit 2 (some .int) 2 := ⟨⟨j_in3 (i := 27) rfl rfl, j_in2 (i := 84) rfl rfl, j_in1 (i := 1) rfl rfl, by decide +kernel⟩, j_in2 (i := 83) rfl rfl⟩
set_option maxRecDepth 20000 in
theorem ms11_204 : jms RX11 204 yX8_partOf cX8_partOf 2 (some .int) 2 := ⟨⟨j_in3 (i := 211) rfl rfl, j_in3 (i := 213) rfl rfl, j_in1 (i := 5) rfl rfl, by decide +kernel⟩, j_in3 (i := 212) rfl rfl⟩
set_option maxRecDepth 20000 in
theorem ms11_246 : jms RX11 246 yX3_terminalsIn cX3_terminalsIn 4 (some .int) 1 := ⟨⟨j_in4 (i := 126) rfl rfl, j_in4 (i := 128) rfl rfl, j_in1 (i := 7) rfl rfl, by decide +kernel⟩, j_in4 (i := 127) rfl rfl⟩
set_option maxRecDepth 20000 in
theorem ms11_324 : jms RX11 324 yX6_extended cX6_extended 3 (some .int) 2 := ⟨⟨j_in4 (i := 97) rfl rfl, j_in2 (i := 162) rfl rfl, j_in1 (i := 2) rfl rfl, by decide +kernel⟩, j_in2 (i := 161) rfl rfl⟩
set_option maxRecDepth 20000 in
theorem ms11_90 : jms RX11 90 yX11_isNonterminal cX11_isNonterminal 1 (some .boolean) 1 := ⟨⟨j_in2 (i := 150) rfl rfl, j_in2 (i := 152) rfl rfl, j_in1 (i := 1) rfl rfl, by decide +kernel⟩, j_in2 (i := 151) rfl rfl⟩
set_option maxRecDepth 20000 in
theorem ms11_94 : jms RX11 94 yX6_emptyOf cX6_emptyOf 1 (some .int) 1 := ⟨⟨j_in2 (i := 153) rfl rfl, j_in2 (i := 155) rfl rfl, j_in1 (i := 2) rfl rfl, by decide +kernel⟩, j_in2 (i := 154) rfl rfl⟩
set_option maxRecDepth 20000 in
theorem ms11_98 : jms RX11 98 yX6_extendedByArgument cX6_extendedByArgument 5 (some .int) 3 := ⟨⟨j_in2 (i := 156) rfl rfl, j_in2 (i := 158) rfl rfl, j_in1 (i := 2) rfl rfl, by decide +kernel⟩, j_in2 (i := 157) rfl rfl⟩
set_option maxRecDepth 20000 in
theorem ms12_119 : jms RX12 119 yX12_in cX12_in 3 (some .boolean) 3 := ⟨⟨j_in6 (i := 46) rfl rfl, j_in6 (i := 48) rfl rfl, j_in1 (i := 15) rfl rfl, by decide +kernel⟩, j_in6 (i := 47) rfl rfl⟩
set_option maxRecDepth 20000 in
theorem ms12_149 : jms RX12 149 yX12_isSymbol cX12_isSymbol 1 (some .boolean) 1 := ⟨⟨j_in6 (i := 57) rfl rfl, j_in6 (i := 59) rfl rfl, j_in1 (i := 15) rfl rfl, by decide +kernel⟩, j_in6 (i := 58) rfl rfl⟩
set_option maxRecDepth 20000 in
theorem ms12_153 : jms RX12 153 yX12_isName cX12_isName 1 (some .boolean) 1 := ⟨⟨j_in6 (i := 60) rfl rfl, j_in6 (i := 62) rfl rfl, j_in1 (i := 15) rfl rfl, by decide +kernel⟩, j_in6 (i := 61) rfl rfl⟩
set_option maxRecDepth 20000 in
theorem mv0_104 : jmv RX0 104 yX10_isEmpty cX10_isEmpty 2 (some .boolean) 1 10 := ⟨⟨j_in4 (i := 8) rfl rfl, j_in4 (i := 11) rfl rfl, j_in1 (i := 11) rfl rfl, by decide +kernel⟩, j_in4 (i := 9) rfl rfl, j_in4 (i := 10) rfl rfl, TX10, 3, rfl⟩
set_option maxRecDepth 20000 in
theorem mv0_107 : jmv RX0 107 yX0_lowerMarked cX0_lowerMarked 6 (some .boolean) 1 0 := ⟨⟨j_in4 (i := 16) rfl rfl, j_in4 (i := 19) rfl rfl, j_in1 (i := 10) rfl rfl, by decide +kernel⟩, j_in4 (i := 18) rfl rfl, j_inS (i := 27) rfl rfl, TX0, 4, rfl⟩
set_option maxRecDepth 20000 in
theorem mv0_110 : jmv RX0 110 yX10_exists cX10_exists 2 (some .boolean) 1 10 := ⟨⟨j_in4 (i := 20) rfl rfl, j_in3 (i := 162) rfl rfl, j_in1 (i := 11) rfl rfl, by decide +kernel⟩, j_in3 (i := 160) rfl rfl, j_in3 (i := 161) rfl rfl, TX10, 3, rfl⟩
set_option maxRecDepth 20000 in
theorem mv0_113 : jmv RX0 113 yX0_lowerEnded cX0_lowerEnded 4 (some .boolean) 2 0 := ⟨⟨j_in4 (i := 21) rfl rfl, j_in4 (i := 24) rfl rfl, j_in1 (i := 10) rfl rfl, by decide +kernel⟩, j_in4 (i := 23) rfl rfl, j_inS (i := 28) rfl rfl, TX0, 4, rfl⟩
set_option maxRecDepth 20000 in
theorem mv0_32 : jmv RX0 32 yX0_findPlain cX0_findPlain 4 none 0 0 := ⟨⟨j_in3 (i := 92) rfl rfl, j_in3 (i := 95) rfl rfl, j_in1 (i := 10) rfl rfl, by decide +kernel⟩, j_in3 (i := 94) rfl rfl, j_inS (i := 12) rfl rfl, TX0, 4, rfl⟩
set_option maxRecDepth 20000 in
theorem mv0_35 : jmv RX0 35 yX6_has cX6_has 2 (some .boolean) 1 6 := ⟨⟨j_in3 (i := 236) rfl rfl, j_in2 (i := 231) rfl rfl, j_in1 (i := 2) rfl rfl, by decide +kernel⟩, j_in2 (i := 229) rfl rfl, j_in2 (i := 230) rfl rfl, TX6, 2, rfl⟩
set_option maxRecDepth 20000 in
theorem mv0_41 : jmv RX0 41 yX0_findStarting cX0_findStarting 5 none 1 0 := ⟨⟨j_in3 (i := 237) rfl rfl, j_in4 (i := 0) rfl rfl, j_in1 (i := 10) rfl rfl, by decide +kernel⟩, j_in3 (i := 239) rfl rfl, j_inS (i := 24) rfl rfl, TX0, 4, rfl⟩
set_option maxRecDepth 20000 in
theorem mv0_44 : jmv RX0 44 yX0_findMarked cX0_findMarked 5 none 1 0 := ⟨⟨j_in4 (i := 12) rfl rfl, j_in4 (i := 15) rfl rfl, j_in1 (i := 10) rfl rfl, by decide +kernel⟩, j_in4 (i := 14) rfl rfl, j_inS (i := 26) rfl rfl, TX0, 4, rfl⟩
set_option maxRecDepth 20000 in
theorem mv0_55 : jmv RX0 55 yX10_putNone cX10_putNone 2 none 1 10 := ⟨⟨j_in3 (i := 100) rfl rfl, j_in3 (i := 103) rfl rfl, j_in1 (i := 11) rfl rfl, by decide +kernel⟩, j_in3 (i := 101) rfl rfl, j_in3 (i := 102) rfl rfl, TX10, 3, rfl⟩
set_option maxRecDepth 20000 in
theorem mv0_58 : jmv RX0 58 yX0_forgetKind cX0_forgetKind 3 none 1 0 := ⟨⟨j_in3 (i := 96) rfl rfl, j_in3 (i := 99) rfl rfl, j_in1 (i := 10) rfl rfl, by decide +kernel⟩, j_in3 (i := 98) rfl rfl, j_inS (i := 13) rfl rfl, TX0, 4, rfl⟩
set_option maxRecDepth 20000 in
theorem mv0_61 : jmv RX0 61 yX10_putTerminal cX10_putTerminal 4 none 3 10 := ⟨⟨j_in3 (i := 108) rfl rfl, j_in3 (i := 111) rfl rfl, j_in1 (i := 11) rfl rfl, by decide +kernel⟩, j_in3 (i := 109) rfl rfl, j_in3 (i := 110) rfl rfl, TX10, 3, rfl⟩
set_option maxRecDepth 20000 in
theorem mv0_68 : jmv RX0 68 yX0_putPlainTails cX0_putPlainTails 5 none 1 0 := ⟨⟨j_in3 (i := 112) rfl rfl, j_in3 (i := 115) rfl rfl, j_in1 (i := 10) rfl rfl, by decide +kernel⟩, j_in3 (i := 114) rfl rfl, j_inS (i := 15) rfl rfl, TX0, 4, rfl⟩
set_option maxRecDepth 20000 in
theorem mv0_71 : jmv RX0 71 yX0_leftSymbol cX0_leftSymbol 2 (some .int) 1 0 := ⟨⟨j_in3 (i := 142) rfl rfl, j_in3 (i := 145) rfl rfl, j_in1 (i := 10) rfl rfl, by decide +kernel⟩, j_in3 (i := 144) rfl rfl, j_inS (i := 18) rfl rfl, TX0, 4, rfl⟩
set_option maxRecDepth 20000 in
theorem mv0_78 : jmv RX0 78 yX10_lower cX10_lower 3 (some .boolean) 2 10 := ⟨⟨j_in3 (i := 147) rfl rfl, j_in3 (i := 150) rfl rfl, j_in1 (i := 11) rfl rfl, by decide +kernel⟩, j_in3 (i := 148) rfl rfl, j_in3 (i := 149) rfl rfl, TX10, 3, rfl⟩
set_option maxRecDepth 20000 in
theorem mv0_85 : jmv RX0 85 yX10_putEmpty cX10_putEmpty 2 none 1 10 := ⟨⟨j_in3 (i := 120) rfl rfl, j_in3 (i := 123) rfl rfl, j_in1 (i := 11) rfl rfl, by decide +kernel⟩, j_in3 (i := 121) rfl rfl, j_in3 (i := 122) rfl rfl, TX10, 3, rfl⟩
set_option maxRecDepth 20000 in
theorem mv0_91 : jmv RX0 91 yX10_putCopy cX10_putCopy 3 none 2 10 := ⟨⟨j_in3 (i := 125) rfl rfl, j_in3 (i := 128) rfl rfl, j_in1 (i := 11) rfl rfl, by decide +kernel⟩, j_in3 (i := 126) rfl rfl, j_in3 (i := 127) rfl rfl, TX10, 3, rfl⟩
set_option maxRecDepth 20000 in
theorem mv0_95 : jmv RX0 95 yX10_append cX10_append 4 none 2 10 := ⟨⟨j_in3 (i := 129) rfl rfl, j_in3 (i := 132) rfl rfl, j_in1 (i := 11) rfl rfl, by decide +kernel⟩, j_in3 (i := 130) rfl rfl, j_in3 (i := 131) rfl rfl, TX10, 3, rfl⟩
set_option maxRecDepth 20000 in
theorem mv0_98 : jmv RX0 98 yX0_putStartingTails cX0_putStartingTails 6 none 1 0 := ⟨⟨j_in4 (i := 1) rfl rfl, j_in4 (i := 4) rfl rfl, j_in1 (i := 10) rfl rfl, by decide +kernel⟩, j_in4 (i := 3) rfl rfl, j_inS (i := 25) rfl rfl, TX0, 4, rfl⟩
set_option maxRecDepth 20000 in
theorem mv1_20 : jmv RX1 20 yX1_because cX1_because 3 none 2 1 := ⟨⟨j_in2 (i := 171) rfl rfl, j_in2 (i := 174) rfl rfl, j_in1 (i := 6) rfl rfl, by decide +kernel⟩, j_in2 (i := 172) rfl rfl, j_in2 (i := 173) rfl rfl, TX1, 3, rfl⟩
set_option maxRecDepth 20000 in
theorem mv2_31 : jmv RX2 31 yX6_become cX6_become 2 none 1 6 := ⟨⟨j_in2 (i := 187) rfl rfl, j_in2 (i := 190) rfl rfl, j_in1 (i := 2) rfl rfl, by decide +kernel⟩, j_in2 (i := 188) rfl rfl, j_in2 (i := 189) rfl rfl, TX6, 2, rfl⟩
set_option maxRecDepth 20000 in
theorem mv4_107 : jmv RX4 107 yX4_explainNoEntry cX4_explainNoEntry 3 none 2 4 := ⟨⟨j_in4 (i := 213) rfl rfl, j_in4 (i := 216) rfl rfl, j_in1 (i := 8) rfl rfl, by decide +kernel⟩, j_in4 (i := 215) rfl rfl, j_inS (i := 43) rfl rfl, TX4, 15, rfl⟩
set_option maxRecDepth 20000 in
theorem mv4_111 : jmv RX4 111 yX6_productionsOf cX6_productionsOf 4 (some .int) 1 6 := ⟨⟨j_in4 (i := 217) rfl rfl, j_in4 (i := 101) rfl rfl, j_in1 (i := 2) rfl rfl, by decide +kernel⟩, j_in4 (i := 99) rfl rfl, j_in4 (i := 100) rfl rfl, TX6, 2, rfl⟩
set_option maxRecDepth 20000 in
theorem mv4_117 : jmv RX4 117 yX8_entriesOf cX8_entriesOf 4 (some .int) 1 8 := ⟨⟨j_in4 (i := 218) rfl rfl, j_in4 (i := 221) rfl rfl, j_in1 (i := 5) rfl rfl, by decide +kernel⟩, j_in4 (i := 219) rfl rfl, j_in4 (i := 220) rfl rfl, TX8, 6, rfl⟩
set_option maxRecDepth 20000 in
theorem mv4_128 : jmv RX4 128 yX4_push cX4_push 3 none 2 4 := ⟨⟨j_in4 (i := 153) rfl rfl, j_in4 (i := 156) rfl rfl, j_in1 (i := 8) rfl rfl, by decide +kernel⟩, j_in4 (i := 155) rfl rfl, j_inS (i := 35) rfl rfl, TX4, 15, rfl⟩
set_option maxRecDepth 20000 in
theorem mv4_131 : jmv RX4 131 yX3_tokenAt cX3_tokenAt 2 (some .int) 1 3 := ⟨⟨j_in4 (i := 165) rfl rfl, j_in4 (i := 168) rfl rfl, j_in1 (i := 7) rfl rfl, by decide +kernel⟩, j_in4 (i := 166) rfl rfl, j_in4 (i := 167) rfl rfl, TX3, 2, rfl⟩
set_option maxRecDepth 20000 in
theorem mv4_134 : jmv RX4 134 yX4_token cX4_token 1 (some .int) 0 4 := ⟨⟨j_in4 (i := 161) rfl rfl, j_in4 (i := 164) rfl rfl, j_in1 (i := 8) rfl rfl, by decide +kernel⟩, j_in4 (i := 163) rfl rfl, j_inS (i := 37) rfl rfl, TX4, 15, rfl⟩
set_option maxRecDepth 20000 in
theorem mv4_137 : jmv RX4 137 yX8_entry cX8_entry 4 (some .int) 2 8 := ⟨⟨j_in4 (i := 187) rfl rfl, j_in3 (i := 179) rfl rfl, j_in1 (i := 5) rfl rfl, by decide +kernel⟩, j_in3 (i := 177) rfl rfl, j_in3 (i := 178) rfl rfl, TX8, 6, rfl⟩
set_option maxRecDepth 20000 in
theorem mv4_141 : jmv RX4 141 yX4_expand cX4_expand 4 none 1 4 := ⟨⟨j_in4 (i := 200) rfl rfl, j_in4 (i := 203) rfl rfl, j_in1 (i := 8) rfl rfl, by decide +kernel⟩, j_in4 (i := 202) rfl rfl, j_inS (i := 42) rfl rfl, TX4, 15, rfl⟩
set_option maxRecDepth 20000 in
theorem mv4_144 : jmv RX4 144 yX6_has cX6_has 2 (some .boolean) 1 6 := ⟨⟨j_in4 (i := 204) rfl rfl, j_in2 (i := 231) rfl rfl, j_in1 (i := 2) rfl rfl, by decide +kernel⟩, j_in2 (i := 229) rfl rfl, j_in2 (i := 230) rfl rfl, TX6, 2, rfl⟩
set_option maxRecDepth 20000 in
theorem mv4_157 : jmv RX4 157 yX4_noteError cX4_noteError 4 none 2 4 := ⟨⟨j_in4 (i := 234) rfl rfl, j_in4 (i := 237) rfl rfl, j_in1 (i := 8) rfl rfl, by decide +kernel⟩, j_in4 (i := 236) rfl rfl, j_inS (i := 45) rfl rfl, TX4, 15, rfl⟩
set_option maxRecDepth 20000 in
theorem mv4_160 : jmv RX4 160 yX4_mayLeave cX4_mayLeave 3 (some .boolean) 1 4 := ⟨⟨j_in4 (i := 238) rfl rfl, j_in5 (i := 1) rfl rfl, j_in1 (i := 8) rfl rfl, by decide +kernel⟩, j_in5 (i := 0) rfl rfl, j_inS (i := 46) rfl rfl, TX4, 15, rfl⟩
set_option maxRecDepth 20000 in
theorem mv4_50 : jmv RX4 50 yX4_begin cX4_begin 1 none 0 4 := ⟨⟨j_in4 (i := 149) rfl rfl, j_in4 (i := 152) rfl rfl, j_in1 (i := 8) rfl rfl, by decide +kernel⟩, j_in4 (i := 151) rfl rfl, j_inS (i := 34) rfl rfl, TX4, 15, rfl⟩
set_option maxRecDepth 20000 in
theorem mv4_53 : jmv RX4 53 yX4_accepts cX4_accepts 1 (some .boolean) 0 4 := ⟨⟨j_in4 (i := 157) rfl rfl, j_in4 (i := 160) rfl rfl, j_in1 (i := 8) rfl rfl, by decide +kernel⟩, j_in4 (i := 159) rfl rfl, j_inS (i := 36) rfl rfl, TX4, 15, rfl⟩
set_option maxRecDepth 20000 in
theorem mv4_61 : jmv RX4 61 yX9_finish cX9_finish 4 none 1 9 := ⟨⟨j_in4 (i := 169) rfl rfl, j_in4 (i := 172) rfl rfl, j_in1 (i := 9) rfl rfl, by decide +kernel⟩, j_in4 (i := 170) rfl rfl, j_in4 (i := 171) rfl rfl, TX9, 4, rfl⟩
set_option maxRecDepth 20000 in
theorem mv4_65 : jmv RX4 65 yX4_canMove cX4_canMove 2 (some .boolean) 0 4 := ⟨⟨j_in4 (i := 179) rfl rfl, j_in4 (i := 182) rfl rfl, j_in1 (i := 8) rfl rfl, by decide +kernel⟩, j_in4 (i := 181) rfl rfl, j_inS (i := 38) rfl rfl, TX4, 15, rfl⟩
set_option maxRecDepth 20000 in
theorem mv4_68 : jmv RX4 68 yX4_top cX4_top 1 (some .int) 0 4 := ⟨⟨j_in4 (i := 183) rfl rfl, j_in4 (i := 186) rfl rfl, j_in1 (i := 8) rfl rfl, by decide +kernel⟩, j_in4 (i := 185) rfl rfl, j_inS (i := 39) rfl rfl, TX4, 15, rfl⟩
set_option maxRecDepth 20000 in
theorem mv4_72 : jmv RX4 72 yX4_bringer cX4_bringer 1 (some .int) 0 4 := ⟨⟨j_in4 (i := 188) rfl rfl, j_in4 (i := 191) rfl rfl, j_in1 (i := 8) rfl rfl, by decide +kernel⟩, j_in4 (i := 190) rfl rfl, j_inS (i := 40) rfl rfl, TX4, 15, rfl⟩
set_option maxRecDepth 20000 in
theorem mv4_75 : jmv RX4 75 yX9_note cX9_note 4 none 3 9 := ⟨⟨j_in4 (i := 192) rfl rfl, j_in4 (i := 195) rfl rfl, j_in1 (i := 9) rfl rfl, by decide +kernel⟩, j_in4 (i := 193) rfl rfl, j_in4 (i := 194) rfl rfl, TX9, 4, rfl⟩
set_option maxRecDepth 20000 in
theorem mv4_79 : jmv RX4 79 yX4_move cX4_move 2 none 0 4 := ⟨⟨j_in4 (i := 196) rfl rfl, j_in4 (i := 199) rfl rfl, j_in1 (i := 8) rfl rfl, by decide +kernel⟩, j_in4 (i := 198) rfl rfl, j_inS (i := 41) rfl rfl, TX4, 15, rfl⟩
set_option maxRecDepth 20000 in
theorem mv4_88 : jmv RX4 88 yX4_passError cX4_passError 2 none 0 4 := ⟨⟨j_in4 (i := 230) rfl rfl, j_in4 (i := 233) rfl rfl, j_in1 (i := 8) rfl rfl, by decide +kernel⟩, j_in4 (i := 232) rfl rfl, j_inS (i := 44) rfl rfl, TX4, 15, rfl⟩
set_option maxRecDepth 20000 in
theorem mv4_96 : jmv RX4 96 yX1_begin cX1_begin 3 none 2 1 := ⟨⟨j_in4 (i := 211) rfl rfl, j_in2 (i := 170) rfl rfl, j_in1 (i := 6) rfl rfl, by decide +kernel⟩, j_in2 (i := 168) rfl rfl, j_in2 (i := 169) rfl rfl, TX1, 3, rfl⟩
set_option maxRecDepth 20000 in
theorem mv4_99 : jmv RX4 99 yX1_because cX1_because 3 none 2 1 := ⟨⟨j_in4 (i := 212) rfl rfl, j_in2 (i := 174) rfl rfl, j_in1 (i := 6) rfl rfl, by decide +kernel⟩, j_in2 (i := 172) rfl rfl, j_in2 (i := 173) rfl rfl, TX1, 3, rfl⟩
set_option maxRecDepth 20000 in
theorem mv5_102 : jmv RX5 102 yX10_lower cX10_lower 3 (some .boolean) 2 10 := ⟨⟨j_in5 (i := 80) rfl rfl, j_in3 (i := 150) rfl rfl, j_in1 (i := 11) rfl rfl, by decide +kernel⟩, j_in3 (i := 148) rfl rfl, j_in3 (i := 149) rfl rfl, TX10, 3, rfl⟩
set_option maxRecDepth 20000 in
theorem mv5_106 : jmv RX5 106 yX10_lowerToJoined cX10_lowerToJoined 9 none 3 10 := ⟨⟨j_in5 (i := 74) rfl rfl, j_in5 (i := 77) rfl rfl, j_in1 (i := 11) rfl rfl, by decide +kernel⟩, j_in5 (i := 75) rfl rfl, j_in5 (i := 76) rfl rfl, TX10, 3, rfl⟩
set_option maxRecDepth 20000 in
theorem mv5_44 : jmv RX5 44 yX5_findWords cX5_findWords 6 none 2 5 := ⟨⟨j_in5 (i := 49) rfl rfl, j_in5 (i := 52) rfl rfl, j_in1 (i := 13) rfl rfl, by decide +kernel⟩, j_in5 (i := 51) rfl rfl, j_inS (i := 47) rfl rfl, TX5, 4, rfl⟩
set_option maxRecDepth 20000 in
theorem mv5_52 : jmv RX5 52 yX10_exists cX10_exists 2 (some .boolean) 1 10 := ⟨⟨j_in5 (i := 81) rfl rfl, j_in3 (i := 162) rfl rfl, j_in1 (i := 11) rfl rfl, by decide +kernel⟩, j_in3 (i := 160) rfl rfl, j_in3 (i := 161) rfl rfl, TX10, 3, rfl⟩
set_option maxRecDepth 20000 in
theorem mv5_56 : jmv RX5 56 yX10_putCopy cX10_putCopy 3 none 2 10 := ⟨⟨j_in5 (i := 78) rfl rfl, j_in3 (i := 128) rfl rfl, j_in1 (i := 11) rfl rfl, by decide +kernel⟩, j_in3 (i := 126) rfl rfl, j_in3 (i := 127) rfl rfl, TX10, 3, rfl⟩
set_option maxRecDepth 20000 in
theorem mv5_59 : jmv RX5 59 yX10_lengthOf cX10_lengthOf 2 (some .int) 1 10 := ⟨⟨j_in5 (i := 82) rfl rfl, j_in3 (i := 158) rfl rfl, j_in1 (i := 11) rfl rfl, by decide +kernel⟩, j_in3 (i := 156) rfl rfl, j_in3 (i := 157) rfl rfl, TX10, 3, rfl⟩
set_option maxRecDepth 20000 in
theorem mv5_63 : jmv RX5 63 yX5_putTerminals cX5_putTerminals 5 none 2 5 := ⟨⟨j_in5 (i := 53) rfl rfl, j_in5 (i := 56) rfl rfl, j_in1 (i := 13) rfl rfl, by decide +kernel⟩, j_in5 (i := 55) rfl rfl, j_inS (i := 48) rfl rfl, TX5, 4, rfl⟩
set_option maxRecDepth 20000 in
theorem mv5_66 : jmv RX5 66 yX10_putNone cX10_putNone 2 none 1 10 := ⟨⟨j_in5 (i := 62) rfl rfl, j_in3 (i := 103) rfl rfl, j_in1 (i := 11) rfl rfl, by decide +kernel⟩, j_in3 (i := 101) rfl rfl, j_in3 (i := 102) rfl rfl, TX10, 3, rfl⟩
set_option maxRecDepth 20000 in
theorem mv5_77 : jmv RX5 77 yX5_lowerBy cX5_lowerBy 6 (some .boolean) 3 5 := ⟨⟨j_in5 (i := 63) rfl rfl, j_in5 (i := 66) rfl rfl, j_in1 (i := 13) rfl rfl, by decide +kernel⟩, j_in5 (i := 65) rfl rfl, j_inS (i := 49) rfl rfl, TX5, 4, rfl⟩
set_option maxRecDepth 20000 in
theorem mv5_81 : jmv RX5 81 yX3_tokenAt cX3_tokenAt 2 (some .int) 1 3 := ⟨⟨j_in5 (i := 60) rfl rfl, j_in4 (i := 168) rfl rfl, j_in1 (i := 7) rfl rfl, by decide +kernel⟩, j_in4 (i := 166) rfl rfl, j_in4 (i := 167) rfl rfl, TX3, 2, rfl⟩
set_option maxRecDepth 20000 in
theorem mv5_84 : jmv RX5 84 yX10_putTerminal cX10_putTerminal 4 none 3 10 := ⟨⟨j_in5 (i := 61) rfl rfl, j_in3 (i := 111) rfl rfl, j_in1 (i := 11) rfl rfl, by decide +kernel⟩, j_in3 (i := 109) rfl rfl, j_in3 (i := 110) rfl rfl, TX10, 3, rfl⟩
set_option maxRecDepth 20000 in
theorem mv5_88 : jmv RX5 88 yX10_putEmpty cX10_putEmpty 2 none 1 10 := ⟨⟨j_in5 (i := 67) rfl rfl, j_in3 (i := 123) rfl rfl, j_in1 (i := 11) rfl rfl, by decide +kernel⟩, j_in3 (i := 121) rfl rfl, j_in3 (i := 122) rfl rfl, TX10, 3, rfl⟩
set_option maxRecDepth 20000 in
theorem mv5_95 : jmv RX5 95 yX5_extendCover cX5_extendCover 8 none 5 5 := ⟨⟨j_in5 (i := 70) rfl rfl, j_in5 (i := 73) rfl rfl, j_in1 (i := 13) rfl rfl, by decide +kernel⟩, j_in5 (i := 72) rfl rfl, j_inS (i := 50) rfl rfl, TX5, 4, rfl⟩
set_option maxRecDepth 20000 in
theorem mv6_61 : jmv RX6 61 yX6_prefixSharedAfter cX6_prefixSharedAfter 5 (some .int) 2 6 := ⟨⟨j_in4 (i := 41) rfl rfl, j_in4 (i := 44) rfl rfl, j_in1 (i := 2) rfl rfl, by decide +kernel⟩, j_in4 (i := 43) rfl rfl, j_inS (i := 29) rfl rfl, TX6, 2, rfl⟩
set_option maxRecDepth 20000 in
theorem mv6_70 : jmv RX6 70 yX6_leadWithPrefix cX6_leadWithPrefix 4 (some .int) 2 6 := ⟨⟨j_in4 (i := 69) rfl rfl, j_in4 (i := 72) rfl rfl, j_in1 (i := 2) rfl rfl, by decide +kernel⟩, j_in4 (i := 71) rfl rfl, j_inS (i := 32) rfl rfl, TX6, 2, rfl⟩
set_option maxRecDepth 20000 in
theorem mv6_73 : jmv RX6 73 yX6_removeAll cX6_removeAll 1 none 0 6 := ⟨⟨j_in4 (i := 73) rfl rfl, j_in3 (i := 3) rfl rfl, j_in1 (i := 2) rfl rfl, by decide +kernel⟩, j_in3 (i := 1) rfl rfl, j_in3 (i := 2) rfl rfl, TX6, 2, rfl⟩
set_option maxRecDepth 20000 in
theorem mv6_79 : jmv RX6 79 yX6_add cX6_add 2 none 1 6 := ⟨⟨j_in4 (i := 78) rfl rfl, j_in2 (i := 195) rfl rfl, j_in1 (i := 2) rfl rfl, by decide +kernel⟩, j_in2 (i := 193) rfl rfl, j_in2 (i := 194) rfl rfl, TX6, 2, rfl⟩
set_option maxRecDepth 20000 in
theorem mv7_35 : jmv RX7 35 yX7_computeNullable cX7_computeNullable 6 none 1 7 := ⟨⟨j_in2 (i := 64) rfl rfl, j_in2 (i := 67) rfl rfl, j_in1 (i := 4) rfl rfl, by decide +kernel⟩, j_in2 (i := 66) rfl rfl, j_inS (i := 0) rfl rfl, TX7, 4, rfl⟩
set_option maxRecDepth 20000 in
theorem mv7_39 : jmv RX7 39 yX7_computeFirst cX7_computeFirst 7 none 1 7 := ⟨⟨j_in2 (i := 88) rfl rfl, j_in2 (i := 91) rfl rfl, j_in1 (i := 4) rfl rfl, by decide +kernel⟩, j_in2 (i := 90) rfl rfl, j_inS (i := 1) rfl rfl, TX7, 4, rfl⟩
set_option maxRecDepth 20000 in
theorem mv7_42 : jmv RX7 42 yX7_computeFollow cX7_computeFollow 5 none 1 7 := ⟨⟨j_in2 (i := 100) rfl rfl, j_in2 (i := 103) rfl rfl, j_in1 (i := 4) rfl rfl, by decide +kernel⟩, j_in2 (i := 102) rfl rfl, j_inS (i := 3) rfl rfl, TX7, 4, rfl⟩
set_option maxRecDepth 20000 in
theorem mv7_53 : jmv RX7 53 yX7_vanishes cX7_vanishes 4 (some .boolean) 2 7 := ⟨⟨j_in2 (i := 68) rfl rfl, j_in2 (i := 71) rfl rfl, j_in1 (i := 4) rfl rfl, by decide +kernel⟩, j_in2 (i := 69) rfl rfl, j_in2 (i := 70) rfl rfl, TX7, 4, rfl⟩
set_option maxRecDepth 20000 in
theorem mv7_61 : jmv RX7 61 yX7_firstFrom cX7_firstFrom 5 (some .int) 2 7 := ⟨⟨j_in2 (i := 92) rfl rfl, j_in2 (i := 95) rfl rfl, j_in1 (i := 4) rfl rfl, by decide +kernel⟩, j_in2 (i := 93) rfl rfl, j_in2 (i := 94) rfl rfl, TX7, 4, rfl⟩
set_option maxRecDepth 20000 in
theorem mv7_64 : jmv RX7 64 yX7_spreadFollow cX7_spreadFollow 7 (some .boolean) 1 7 := ⟨⟨j_in2 (i := 104) rfl rfl, j_in2 (i := 107) rfl rfl, j_in1 (i := 4) rfl rfl, by decide +kernel⟩, j_in2 (i := 106) rfl rfl, j_inS (i := 4) rfl rfl, TX7, 4, rfl⟩
set_option maxRecDepth 20000 in
theorem mv7_74 : jmv RX7 74 yX7_isNullable cX7_isNullable 2 (some .boolean) 1 7 := ⟨⟨j_in2 (i := 78) rfl rfl, j_in2 (i := 81) rfl rfl, j_in1 (i := 4) rfl rfl, by decide +kernel⟩, j_in2 (i := 79) rfl rfl, j_in2 (i := 80) rfl rfl, TX7, 4, rfl⟩
set_option maxRecDepth 20000 in
theorem mv7_77 : jmv RX7 77 yX7_firstOf cX7_firstOf 2 (some .int) 1 7 := ⟨⟨j_in2 (i := 96) rfl rfl, j_in2 (i := 99) rfl rfl, j_in1 (i := 4) rfl rfl, by decide +kernel⟩, j_in2 (i := 98) rfl rfl, j_inS (i := 2) rfl rfl, TX7, 4, rfl⟩
set_option maxRecDepth 20000 in
theorem mv7_83 : jmv RX7 83 yX7_nonterminalsThatBegin cX7_nonterminalsThatBegin 5 (some .int) 1 7 := ⟨⟨j_in3 (i := 76) rfl rfl, j_in3 (i := 79) rfl rfl, j_in1 (i := 4) rfl rfl, by decide +kernel⟩, j_in3 (i := 78) rfl rfl, j_inS (i := 10) rfl rfl, TX7, 4, rfl⟩
set_option maxRecDepth 20000 in
theorem mv7_86 : jmv RX7 86 yX7_closeBegins cX7_closeBegins 3 none 0 7 := ⟨⟨j_in3 (i := 80) rfl rfl, j_in3 (i := 83) rfl rfl, j_in1 (i := 4) rfl rfl, by decide +kernel⟩, j_in3 (i := 82) rfl rfl, j_inS (i := 11) rfl rfl, TX7, 4, rfl⟩
set_option maxRecDepth 20000 in
theorem mv8_38 : jmv RX8 38 yX8_selectOf cX8_selectOf 3 (some .int) 1 8 := ⟨⟨j_in2 (i := 204) rfl rfl, j_in2 (i := 207) rfl rfl, j_in1 (i := 5) rfl rfl, by decide +kernel⟩, j_in2 (i := 206) rfl rfl, j_inS (i := 7) rfl rfl, TX8, 6, rfl⟩
set_option maxRecDepth 20000 in
theorem mv8_42 : jmv RX8 42 yX8_enter cX8_enter 4 none 1 8 := ⟨⟨j_in2 (i := 211) rfl rfl, j_in2 (i := 214) rfl rfl, j_in1 (i := 5) rfl rfl, by decide +kernel⟩, j_in2 (i := 213) rfl rfl, j_inS (i := 8) rfl rfl, TX8, 6, rfl⟩
set_option maxRecDepth 20000 in
theorem mv8_49 : jmv RX8 49 yX8_pairsIn cX8_pairsIn 2 (some .int) 1 8 := ⟨⟨j_in2 (i := 216) rfl rfl, j_in2 (i := 219) rfl rfl, j_in1 (i := 5) rfl rfl, by decide +kernel⟩, j_in2 (i := 218) rfl rfl, j_inS (i := 9) rfl rfl, TX8, 6, rfl⟩
set_option maxRecDepth 20000 in
theorem mv8_52 : jmv RX8 52 yX7_firstFrom cX7_firstFrom 5 (some .int) 2 7 := ⟨⟨j_in2 (i := 208) rfl rfl, j_in2 (i := 95) rfl rfl, j_in1 (i := 4) rfl rfl, by decide +kernel⟩, j_in2 (i := 93) rfl rfl, j_in2 (i := 94) rfl rfl, TX7, 4, rfl⟩
set_option maxRecDepth 20000 in
theorem mv8_58 : jmv RX8 58 yX7_vanishes cX7_vanishes 4 (some .boolean) 2 7 := ⟨⟨j_in2 (i := 209) rfl rfl, j_in2 (i := 71) rfl rfl, j_in1 (i := 4) rfl rfl, by decide +kernel⟩, j_in2 (i := 69) rfl rfl, j_in2 (i := 70) rfl rfl, TX7, 4, rfl⟩
set_option maxRecDepth 20000 in
theorem mv8_71 : jmv RX8 71 yX8_conflictIn cX8_conflictIn 6 (some .int) 2 8 := ⟨⟨j_in3 (i := 196) rfl rfl, j_in3 (i := 199) rfl rfl, j_in1 (i := 5) rfl rfl, by decide +kernel⟩, j_in3 (i := 198) rfl rfl, j_inS (i := 21) rfl rfl, TX8, 6, rfl⟩
set_option maxRecDepth 20000 in
theorem mv8_74 : jmv RX8 74 yX8_isPossible cX8_isPossible 3 (some .boolean) 2 8 := ⟨⟨j_in3 (i := 200) rfl rfl, j_in3 (i := 203) rfl rfl, j_in1 (i := 5) rfl rfl, by decide +kernel⟩, j_in3 (i := 202) rfl rfl, j_inS (i := 22) rfl rfl, TX8, 6, rfl⟩
set_option maxRecDepth 20000 in
theorem mv8_87 : jmv RX8 87 yX6_has cX6_has 2 (some .boolean) 1 6 := ⟨⟨j_in3 (i := 223) rfl rfl, j_in2 (i := 231) rfl rfl, j_in1 (i := 2) rfl rfl, by decide +kernel⟩, j_in2 (i := 229) rfl rfl, j_in2 (i := 230) rfl rfl, TX6, 2, rfl⟩
set_option maxRecDepth 20000 in
theorem mv9_31 : jmv RX9 31 yX9_has cX9_has 2 (some .boolean) 1 9 := ⟨⟨j_in4 (i := 174) rfl rfl, j_in4 (i := 177) rfl rfl, j_in1 (i := 9) rfl rfl, by decide +kernel⟩, j_in4 (i := 175) rfl rfl, j_in4 (i := 176) rfl rfl, TX9, 4, rfl⟩
set_option maxRecDepth 20000 in
theorem mv10_29 : jmv RX10 29 yX10_exists cX10_exists 2 (some .boolean) 1 10 := ⟨⟨j_in3 (i := 159) rfl rfl, j_in3 (i := 162) rfl rfl, j_in1 (i := 11) rfl rfl, by decide +kernel⟩, j_in3 (i := 160) rfl rfl, j_in3 (i := 161) rfl rfl, TX10, 3, rfl⟩
set_option maxRecDepth 20000 in
theorem mv10_33 : jmv RX10 33 yX10_lengthOf cX10_lengthOf 2 (some .int) 1 10 := ⟨⟨j_in3 (i := 171) rfl rfl, j_in3 (i := 158) rfl rfl, j_in1 (i := 11) rfl rfl, by decide +kernel⟩, j_in3 (i := 156) rfl rfl, j_in3 (i := 157) rfl rfl, TX10, 3, rfl⟩
set_option maxRecDepth 20000 in
theorem mv10_37 : jmv RX10 37 yX10_put cX10_put 7 none 4 10 := ⟨⟨j_in3 (i := 104) rfl rfl, j_in3 (i := 107) rfl rfl, j_in1 (i := 11) rfl rfl, by decide +kernel⟩, j_in3 (i := 106) rfl rfl, j_inS (i := 14) rfl rfl, TX10, 3, rfl⟩
set_option maxRecDepth 20000 in
theorem mv10_43 : jmv RX10 43 yX10_joinedHigh cX10_joinedHigh 4 (some .long) 2 10 := ⟨⟨j_in3 (i := 133) rfl rfl, j_in3 (i := 136) rfl rfl, j_in1 (i := 11) rfl rfl, by decide +kernel⟩, j_in3 (i := 135) rfl rfl, j_inS (i := 16) rfl rfl, TX10, 3, rfl⟩
set_option maxRecDepth 20000 in
theorem mv10_47 : jmv RX10 47 yX10_joinedLow cX10_joinedLow 4 (some .long) 2 10 := ⟨⟨j_in3 (i := 137) rfl rfl, j_in3 (i := 140) rfl rfl, j_in1 (i := 11) rfl rfl, by decide +kernel⟩, j_in3 (i := 139) rfl rfl, j_inS (i := 17) rfl rfl, TX10, 3, rfl⟩
set_option maxRecDepth 20000 in
theorem mv10_50 : jmv RX10 50 yX10_isLess cX10_isLess 7 (some .boolean) 4 10 := ⟨⟨j_in3 (i := 151) rfl rfl, j_in3 (i := 154) rfl rfl, j_in1 (i := 11) rfl rfl, by decide +kernel⟩, j_in3 (i := 153) rfl rfl, j_inS (i := 19) rfl rfl, TX10, 3, rfl⟩
set_option maxRecDepth 20000 in
theorem mv11_102 : jmv RX11 102 yX6_find cX6_find 3 (some .int) 1 6 := ⟨⟨j_in2 (i := 163) rfl rfl, j_in2 (i := 166) rfl rfl, j_in1 (i := 2) rfl rfl, by decide +kernel⟩, j_in2 (i := 164) rfl rfl, j_in2 (i := 165) rfl rfl, TX6, 2, rfl⟩
set_option maxRecDepth 20000 in
theorem mv11_105 : jmv RX11 105 yX1_begin cX1_begin 3 none 2 1 := ⟨⟨j_in2 (i := 167) rfl rfl, j_in2 (i := 170) rfl rfl, j_in1 (i := 6) rfl rfl, by decide +kernel⟩, j_in2 (i := 168) rfl rfl, j_in2 (i := 169) rfl rfl, TX1, 3, rfl⟩
set_option maxRecDepth 20000 in
theorem mv11_109 : jmv RX11 109 yX1_because cX1_because 3 none 2 1 := ⟨⟨j_in2 (i := 175) rfl rfl, j_in2 (i := 174) rfl rfl, j_in1 (i := 6) rfl rfl, by decide +kernel⟩, j_in2 (i := 172) rfl rfl, j_in2 (i := 173) rfl rfl, TX1, 3, rfl⟩
set_option maxRecDepth 20000 in
theorem mv11_116 : jmv RX11 116 yX11_beginEdit cX11_beginEdit 1 (some (.object "PredictiveGrammar$Rules")) 0 11 := ⟨⟨j_in2 (i := 176) rfl rfl, j_in2 (i := 179) rfl rfl, j_in1 (i := 1) rfl rfl, by decide +kernel⟩, j_in2 (i := 178) rfl rfl, j_inS (i := 5) rfl rfl, TX11, 10, rfl⟩
set_option maxRecDepth 20000 in
theorem mv11_120 : jmv RX11 120 yX6_add cX6_add 2 none 1 6 := ⟨⟨j_in2 (i := 192) rfl rfl, j_in2 (i := 195) rfl rfl, j_in1 (i := 2) rfl rfl, by decide +kernel⟩, j_in2 (i := 193) rfl rfl, j_in2 (i := 194) rfl rfl, TX6, 2, rfl⟩
set_option maxRecDepth 20000 in
theorem mv11_124 : jmv RX11 124 yX11_endChange cX11_endChange 1 none 0 11 := ⟨⟨j_in2 (i := 196) rfl rfl, j_in2 (i := 199) rfl rfl, j_in1 (i := 1) rfl rfl, by decide +kernel⟩, j_in2 (i := 198) rfl rfl, j_inS (i := 6) rfl rfl, TX11, 10, rfl⟩
set_option maxRecDepth 20000 in
theorem mv11_127 : jmv RX11 127 yX6_has cX6_has 2 (some .boolean) 1 6 := ⟨⟨j_in2 (i := 228) rfl rfl, j_in2 (i := 231) rfl rfl, j_in1 (i := 2) rfl rfl, by decide +kernel⟩, j_in2 (i := 229) rfl rfl, j_in2 (i := 230) rfl rfl, TX6, 2, rfl⟩
set_option maxRecDepth 20000 in
theorem mv11_130 : jmv RX11 130 yX6_removeAt cX6_removeAt 3 none 1 6 := ⟨⟨j_in2 (i := 232) rfl rfl, j_in2 (i := 235) rfl rfl, j_in1 (i := 2) rfl rfl, by decide +kernel⟩, j_in2 (i := 233) rfl rfl, j_in2 (i := 234) rfl rfl, TX6, 2, rfl⟩
set_option maxRecDepth 20000 in
theorem mv11_133 : jmv RX11 133 yX6_removeAll cX6_removeAll 1 none 0 6 := ⟨⟨j_in3 (i := 0) rfl rfl, j_in3 (i := 3) rfl rfl, j_in1 (i := 2) rfl rfl, by decide +kernel⟩, j_in3 (i := 1) rfl rfl, j_in3 (i := 2) rfl rfl, TX6, 2, rfl⟩
set_option maxRecDepth 20000 in
theorem mv11_165 : jmv RX11 165 yX7_differences cX7_differences 5 (some .int) 1 7 := ⟨⟨j_in3 (i := 44) rfl rfl, j_in3 (i := 47) rfl rfl, j_in1 (i := 4) rfl rfl, by decide +kernel⟩, j_in3 (i := 45) rfl rfl, j_in3 (i := 46) rfl rfl, TX7, 4, rfl⟩
set_option maxRecDepth 20000 in
theorem mv11_169 : jmv RX11 169 yX7_productiveOnes cX7_productiveOnes 8 (some .int) 1 7 := ⟨⟨j_in3 (i := 52) rfl rfl, j_in3 (i := 55) rfl rfl, j_in1 (i := 4) rfl rfl, by decide +kernel⟩, j_in3 (i := 53) rfl rfl, j_in3 (i := 54) rfl rfl, TX7, 4, rfl⟩
set_option maxRecDepth 20000 in
theorem mv11_173 : jmv RX11 173 yX7_reachableOnes cX7_reachableOnes 8 (some .int) 1 7 := ⟨⟨j_in3 (i := 64) rfl rfl, j_in3 (i := 67) rfl rfl, j_in1 (i := 4) rfl rfl, by decide +kernel⟩, j_in3 (i := 65) rfl rfl, j_in3 (i := 66) rfl rfl, TX7, 4, rfl⟩
set_option maxRecDepth 20000 in
theorem mv11_176 : jmv RX11 176 yX7_leftRecursiveOnes cX7_leftRecursiveOnes 4 (some .int) 1 7 := ⟨⟨j_in3 (i := 72) rfl rfl, j_in3 (i := 75) rfl rfl, j_in1 (i := 4) rfl rfl, by decide +kernel⟩, j_in3 (i := 73) rfl rfl, j_in3 (i := 74) rfl rfl, TX7, 4, rfl⟩
set_option maxRecDepth 20000 in
theorem mv11_183 : jmv RX11 183 yX0_shortestWord cX0_shortestWord 2 (some .int) 1 0 := ⟨⟨j_in3 (i := 88) rfl rfl, j_in3 (i := 91) rfl rfl, j_in1 (i := 10) rfl rfl, by decide +kernel⟩, j_in3 (i := 89) rfl rfl, j_in3 (i := 90) rfl rfl, TX0, 4, rfl⟩
set_option maxRecDepth 20000 in
theorem mv11_186 : jmv RX11 186 yX10_lengthOf cX10_lengthOf 2 (some .int) 1 10 := ⟨⟨j_in3 (i := 155) rfl rfl, j_in3 (i := 158) rfl rfl, j_in1 (i := 11) rfl rfl, by decide +kernel⟩, j_in3 (i := 156) rfl rfl, j_in3 (i := 157) rfl rfl, TX10, 3, rfl⟩
set_option maxRecDepth 20000 in
theorem mv11_189 : jmv RX11 189 yX10_terminalOf cX10_terminalOf 7 (some .int) 2 10 := ⟨⟨j_in3 (i := 167) rfl rfl, j_in3 (i := 170) rfl rfl, j_in1 (i := 11) rfl rfl, by decide +kernel⟩, j_in3 (i := 168) rfl rfl, j_in3 (i := 169) rfl rfl, TX10, 3, rfl⟩
set_option maxRecDepth 20000 in
theorem mv11_192 : jmv RX11 192 yX8_entry cX8_entry 4 (some .int) 2 8 := ⟨⟨j_in3 (i := 176) rfl rfl, j_in3 (i := 179) rfl rfl, j_in1 (i := 5) rfl rfl, by decide +kernel⟩, j_in3 (i := 177) rfl rfl, j_in3 (i := 178) rfl rfl, TX8, 6, rfl⟩
set_option maxRecDepth 20000 in
theorem mv11_198 : jmv RX11 198 yX11_isConflict cX11_isConflict 2 (some .boolean) 1 11 := ⟨⟨j_in3 (i := 188) rfl rfl, j_in3 (i := 191) rfl rfl, j_in1 (i := 1) rfl rfl, by decide +kernel⟩, j_in3 (i := 190) rfl rfl, j_inS (i := 20) rfl rfl, TX11, 10, rfl⟩
set_option maxRecDepth 20000 in
theorem mv11_201 : jmv RX11 201 yX8_conflictAt cX8_conflictAt 5 (some .int) 1 8 := ⟨⟨j_in3 (i := 192) rfl rfl, j_in3 (i := 195) rfl rfl, j_in1 (i := 5) rfl rfl, by decide +kernel⟩, j_in3 (i := 193) rfl rfl, j_in3 (i := 194) rfl rfl, TX8, 6, rfl⟩
set_option maxRecDepth 20000 in
theorem mv11_207 : jmv RX11 207 yX8_kindOf cX8_kindOf 6 (some .int) 1 8 := ⟨⟨j_in3 (i := 218) rfl rfl, j_in3 (i := 221) rfl rfl, j_in1 (i := 5) rfl rfl, by decide +kernel⟩, j_in3 (i := 219) rfl rfl, j_in3 (i := 220) rfl rfl, TX8, 6, rfl⟩
set_option maxRecDepth 20000 in
theorem mv11_210 : jmv RX11 210 yX11_exampleWord cX11_exampleWord 5 (some .int) 2 11 := ⟨⟨j_in3 (i := 228) rfl rfl, j_in3 (i := 231) rfl rfl, j_in1 (i := 1) rfl rfl, by decide +kernel⟩, j_in3 (i := 230) rfl rfl, j_inS (i := 23) rfl rfl, TX11, 10, rfl⟩
set_option maxRecDepth 20000 in
theorem mv11_213 : jmv RX11 213 yX6_longestCommonPrefix cX6_longestCommonPrefix 4 (some .int) 1 6 := ⟨⟨j_in4 (i := 37) rfl rfl, j_in4 (i := 40) rfl rfl, j_in1 (i := 2) rfl rfl, by decide +kernel⟩, j_in4 (i := 38) rfl rfl, j_in4 (i := 39) rfl rfl, TX6, 2, rfl⟩
set_option maxRecDepth 20000 in
theorem mv11_216 : jmv RX11 216 yX6_unusedNonterminal cX6_unusedNonterminal 5 (some .int) 1 6 := ⟨⟨j_in4 (i := 51) rfl rfl, j_in4 (i := 54) rfl rfl, j_in1 (i := 2) rfl rfl, by decide +kernel⟩, j_in4 (i := 52) rfl rfl, j_in4 (i := 53) rfl rfl, TX6, 2, rfl⟩
set_option maxRecDepth 20000 in
theorem mv11_219 : jmv RX11 219 yX11_leavesNoRoom cX11_leavesNoRoom 3 (some .boolean) 2 11 := ⟨⟨j_in4 (i := 57) rfl rfl, j_in4 (i := 60) rfl rfl, j_in1 (i := 1) rfl rfl, by decide +kernel⟩, j_in4 (i := 59) rfl rfl, j_inS (i := 30) rfl rfl, TX11, 10, rfl⟩
set_option maxRecDepth 20000 in
theorem mv11_223 : jmv RX11 223 yX6_factor cX6_factor 8 none 4 6 := ⟨⟨j_in4 (i := 65) rfl rfl, j_in4 (i := 68) rfl rfl, j_in1 (i := 2) rfl rfl, by decide +kernel⟩, j_in4 (i := 66) rfl rfl, j_in4 (i := 67) rfl rfl, TX6, 2, rfl⟩
set_option maxRecDepth 20000 in
theorem mv11_227 : jmv RX11 227 yX6_recursiveOf cX6_recursiveOf 4 (some .int) 1 6 := ⟨⟨j_in4 (i := 86) rfl rfl, j_in4 (i := 89) rfl rfl, j_in1 (i := 2) rfl rfl, by decide +kernel⟩, j_in4 (i := 87) rfl rfl, j_in4 (i := 88) rfl rfl, TX6, 2, rfl⟩
set_option maxRecDepth 20000 in
theorem mv11_230 : jmv RX11 230 yX11_hindersRemoval cX11_hindersRemoval 5 (some .boolean) 1 11 := ⟨⟨j_in4 (i := 93) rfl rfl, j_in4 (i := 96) rfl rfl, j_in1 (i := 1) rfl rfl, by decide +kernel⟩, j_in4 (i := 95) rfl rfl, j_inS (i := 33) rfl rfl, TX11, 10, rfl⟩
set_option maxRecDepth 20000 in
theorem mv11_233 : jmv RX11 233 yX6_turnRecursion cX6_turnRecursion 7 none 3 6 := ⟨⟨j_in4 (i := 106) rfl rfl, j_in4 (i := 109) rfl rfl, j_in1 (i := 2) rfl rfl, by decide +kernel⟩, j_in4 (i := 107) rfl rfl, j_in4 (i := 108) rfl rfl, TX6, 2, rfl⟩
set_option maxRecDepth 20000 in
theorem mv11_240 : jmv RX11 240 yX2_restore cX2_restore 2 none 1 2 := ⟨⟨j_in4 (i := 114) rfl rfl, j_in4 (i := 117) rfl rfl, j_in1 (i := 3) rfl rfl, by decide +kernel⟩, j_in4 (i := 115) rfl rfl, j_in4 (i := 116) rfl rfl, TX2, 3, rfl⟩
set_option maxRecDepth 20000 in
theorem mv11_252 : jmv RX11 252 yX3_append cX3_append 5 none 2 3 := ⟨⟨j_in4 (i := 129) rfl rfl, j_in4 (i := 132) rfl rfl, j_in1 (i := 7) rfl rfl, by decide +kernel⟩, j_in4 (i := 130) rfl rfl, j_in4 (i := 131) rfl rfl, TX3, 2, rfl⟩
set_option maxRecDepth 20000 in
theorem mv11_258 : jmv RX11 258 yX4_parseInput cX4_parseInput 2 (some .int) 0 4 := ⟨⟨j_in4 (i := 145) rfl rfl, j_in4 (i := 148) rfl rfl, j_in1 (i := 8) rfl rfl, by decide +kernel⟩, j_in4 (i := 146) rfl rfl, j_in4 (i := 147) rfl rfl, TX4, 15, rfl⟩
set_option maxRecDepth 20000 in
theorem mv11_262 : jmv RX11 262 yX4_explain cX4_explain 3 none 2 4 := ⟨⟨j_in4 (i := 207) rfl rfl, j_in4 (i := 210) rfl rfl, j_in1 (i := 8) rfl rfl, by decide +kernel⟩, j_in4 (i := 208) rfl rfl, j_in4 (i := 209) rfl rfl, TX4, 15, rfl⟩
set_option maxRecDepth 20000 in
theorem mv11_266 : jmv RX11 266 yX4_recoverInput cX4_recoverInput 2 (some .int) 0 4 := ⟨⟨j_in4 (i := 226) rfl rfl, j_in4 (i := 229) rfl rfl, j_in1 (i := 8) rfl rfl, by decide +kernel⟩, j_in4 (i := 227) rfl rfl, j_in4 (i := 228) rfl rfl, TX4, 15, rfl⟩
set_option maxRecDepth 20000 in
theorem mv11_269 : jmv RX11 269 yX4_errorPart cX4_errorPart 3 (some .int) 2 4 := ⟨⟨j_in5 (i := 7) rfl rfl, j_in5 (i := 10) rfl rfl, j_in1 (i := 8) rfl rfl, by decide +kernel⟩, j_in5 (i := 8) rfl rfl, j_in5 (i := 9) rfl rfl, TX4, 15, rfl⟩
set_option maxRecDepth 20000 in
theorem mv11_285 : jmv RX11 285 yX9_has cX9_has 2 (some .boolean) 1 9 := ⟨⟨j_in5 (i := 27) rfl rfl, j_in4 (i := 177) rfl rfl, j_in1 (i := 9) rfl rfl, by decide +kernel⟩, j_in4 (i := 175) rfl rfl, j_in4 (i := 176) rfl rfl, TX9, 4, rfl⟩
set_option maxRecDepth 20000 in
theorem mv11_298 : jmv RX11 298 yX5_findLeastInsertions cX5_findLeastInsertions 4 (some .int) 0 5 := ⟨⟨j_in5 (i := 44) rfl rfl, j_in5 (i := 47) rfl rfl, j_in1 (i := 13) rfl rfl, by decide +kernel⟩, j_in5 (i := 45) rfl rfl, j_in5 (i := 46) rfl rfl, TX5, 4, rfl⟩
set_option maxRecDepth 20000 in
theorem mv11_305 : jmv RX11 305 yX1_has cX1_has 2 (some .boolean) 1 1 := ⟨⟨j_in5 (i := 95) rfl rfl, j_in5 (i := 98) rfl rfl, j_in1 (i := 6) rfl rfl, by decide +kernel⟩, j_in5 (i := 96) rfl rfl, j_in5 (i := 97) rfl rfl, TX1, 3, rfl⟩
set_option maxRecDepth 20000 in
theorem mv11_310 : jmv RX11 310 yX0_exampleWord cX0_exampleWord 4 (some .int) 2 0 := ⟨⟨j_in3 (i := 232) rfl rfl, j_in3 (i := 235) rfl rfl, j_in1 (i := 10) rfl rfl, by decide +kernel⟩, j_in3 (i := 233) rfl rfl, j_in3 (i := 234) rfl rfl, TX0, 4, rfl⟩
set_option maxRecDepth 20000 in
theorem mv11_311 : jmv RX11 311 yX2_save cX2_save 2 (some (.object "PredictiveGrammar$Rules")) 1 2 := ⟨⟨j_in2 (i := 180) rfl rfl, j_in2 (i := 183) rfl rfl, j_in1 (i := 3) rfl rfl, by decide +kernel⟩, j_in2 (i := 181) rfl rfl, j_in2 (i := 182) rfl rfl, TX2, 3, rfl⟩
set_option maxRecDepth 20000 in
theorem mv11_315 : jmv RX11 315 yX8_compute cX8_compute 2 none 0 8 := ⟨⟨j_in2 (i := 200) rfl rfl, j_in2 (i := 203) rfl rfl, j_in1 (i := 5) rfl rfl, by decide +kernel⟩, j_in2 (i := 201) rfl rfl, j_in2 (i := 202) rfl rfl, TX8, 6, rfl⟩
set_option maxRecDepth 20000 in
theorem mv11_317 : jmv RX11 317 yX0_forget cX0_forget 1 none 0 0 := ⟨⟨j_in2 (i := 220) rfl rfl, j_in2 (i := 223) rfl rfl, j_in1 (i := 10) rfl rfl, by decide +kernel⟩, j_in2 (i := 221) rfl rfl, j_in2 (i := 222) rfl rfl, TX0, 4, rfl⟩
set_option maxRecDepth 20000 in
theorem mv11_320 : jmv RX11 320 yX11_reportRewriting cX11_reportRewriting 4 none 3 11 := ⟨⟨j_in4 (i := 61) rfl rfl, j_in4 (i := 64) rfl rfl, j_in1 (i := 1) rfl rfl, by decide +kernel⟩, j_in4 (i := 63) rfl rfl, j_inS (i := 31) rfl rfl, TX11, 10, rfl⟩
set_option maxRecDepth 20000 in
theorem mv11_327 : jmv RX11 327 yX6_productionsOf cX6_productionsOf 4 (some .int) 1 6 := ⟨⟨j_in4 (i := 98) rfl rfl, j_in4 (i := 101) rfl rfl, j_in1 (i := 2) rfl rfl, by decide +kernel⟩, j_in4 (i := 99) rfl rfl, j_in4 (i := 100) rfl rfl, TX6, 2, rfl⟩
set_option maxRecDepth 20000 in
theorem mv11_330 : jmv RX11 330 yX6_lowestFilledOther cX6_lowestFilledOther 4 (some .int) 1 6 := ⟨⟨j_in4 (i := 102) rfl rfl, j_in4 (i := 105) rfl rfl, j_in1 (i := 2) rfl rfl, by decide +kernel⟩, j_in4 (i := 103) rfl rfl, j_in4 (i := 104) rfl rfl, TX6, 2, rfl⟩
set_option maxRecDepth 20000 in
theorem mv11_83 : jmv RX11 83 yX7_compute cX7_compute 3 none 1 7 := ⟨⟨j_in2 (i := 60) rfl rfl, j_in2 (i := 63) rfl rfl, j_in1 (i := 4) rfl rfl, by decide +kernel⟩, j_in2 (i := 61) rfl rfl, j_in2 (i := 62) rfl rfl, TX7, 4, rfl⟩
set_option maxRecDepth 20000 in
theorem mv11_86 : jmv RX11 86 yX7_become cX7_become 2 none 1 7 := ⟨⟨j_in2 (i := 108) rfl rfl, j_in2 (i := 111) rfl rfl, j_in1 (i := 4) rfl rfl, by decide +kernel⟩, j_in2 (i := 109) rfl rfl, j_in2 (i := 110) rfl rfl, TX7, 4, rfl⟩
set_option maxRecDepth 20000 in
theorem mv12_126 : jmv RX12 126 yX12_works cX12_works 2 none 0 12 := ⟨⟨j_in6 (i := 75) rfl rfl, j_in6 (i := 78) rfl rfl, j_in1 (i := 15) rfl rfl, by decide +kernel⟩, j_in6 (i := 77) rfl rfl, j_inS (i := 54) rfl rfl, TX12, 56, rfl⟩
set_option maxRecDepth 20000 in
theorem mv12_129 : jmv RX12 129 yX12_keepsSets cX12_keepsSets 2 none 0 12 := ⟨⟨j_in6 (i := 123) rfl rfl, j_in6 (i := 126) rfl rfl, j_in1 (i := 15) rfl rfl, by decide +kernel⟩, j_in6 (i := 125) rfl rfl, j_inS (i := 66) rfl rfl, TX12, 56, rfl⟩
set_option maxRecDepth 20000 in
theorem mv12_135 : jmv RX12 135 yX12_moves cX12_moves 3 none 1 12 := ⟨⟨j_in6 (i := 127) rfl rfl, j_in6 (i := 130) rfl rfl, j_in1 (i := 15) rfl rfl, by decide +kernel⟩, j_in6 (i := 129) rfl rfl, j_inS (i := 67) rfl rfl, TX12, 56, rfl⟩
set_option maxRecDepth 20000 in
theorem mv12_139 : jmv RX12 139 yX12_lays cX12_lays 3 none 1 12 := ⟨⟨j_in6 (i := 131) rfl rfl, j_in6 (i := 134) rfl rfl, j_in1 (i := 15) rfl rfl, by decide +kernel⟩, j_in6 (i := 133) rfl rfl, j_inS (i := 68) rfl rfl, TX12, 56, rfl⟩
set_option maxRecDepth 20000 in
theorem mv12_156 : jmv RX12 156 yX12_symbol cX12_symbol 3 (some .int) 2 12 := ⟨⟨j_in6 (i := 63) rfl rfl, j_in6 (i := 66) rfl rfl, j_in1 (i := 15) rfl rfl, by decide +kernel⟩, j_in6 (i := 65) rfl rfl, j_inS (i := 51) rfl rfl, TX12, 56, rfl⟩
set_option maxRecDepth 20000 in
theorem mv12_160 : jmv RX12 160 yX12_tells cX12_tells 4 none 3 12 := ⟨⟨j_in6 (i := 67) rfl rfl, j_in6 (i := 70) rfl rfl, j_in1 (i := 15) rfl rfl, by decide +kernel⟩, j_in6 (i := 69) rfl rfl, j_inS (i := 52) rfl rfl, TX12, 56, rfl⟩
set_option maxRecDepth 20000 in
theorem mv12_164 : jmv RX12 164 yX12_edits cX12_edits 2 none 0 12 := ⟨⟨j_in6 (i := 71) rfl rfl, j_in6 (i := 74) rfl rfl, j_in1 (i := 15) rfl rfl, by decide +kernel⟩, j_in6 (i := 73) rfl rfl, j_inS (i := 53) rfl rfl, TX12, 56, rfl⟩
set_option maxRecDepth 20000 in
theorem mv12_166 : jmv RX12 166 yX12_opens cX12_opens 2 (some .int) 1 12 := ⟨⟨j_in6 (i := 135) rfl rfl, j_in6 (i := 138) rfl rfl, j_in1 (i := 15) rfl rfl, by decide +kernel⟩, j_in6 (i := 137) rfl rfl, j_inS (i := 69) rfl rfl, TX12, 56, rfl⟩
set_option maxRecDepth 20000 in
theorem mv12_170 : jmv RX12 170 yX12_puts cX12_puts 3 none 2 12 := ⟨⟨j_in6 (i := 139) rfl rfl, j_in6 (i := 142) rfl rfl, j_in1 (i := 15) rfl rfl, by decide +kernel⟩, j_in6 (i := 141) rfl rfl, j_inS (i := 70) rfl rfl, TX12, 56, rfl⟩
set_option maxRecDepth 20000 in
theorem mv12_174 : jmv RX12 174 yX12_isRule cX12_isRule 2 (some .boolean) 1 12 := ⟨⟨j_in6 (i := 147) rfl rfl, j_in6 (i := 150) rfl rfl, j_in1 (i := 15) rfl rfl, by decide +kernel⟩, j_in6 (i := 149) rfl rfl, j_inS (i := 71) rfl rfl, TX12, 56, rfl⟩
set_option maxRecDepth 20000 in
theorem mv12_177 : jmv RX12 177 yX12_drops cX12_drops 4 none 1 12 := ⟨⟨j_in6 (i := 151) rfl rfl, j_in6 (i := 154) rfl rfl, j_in1 (i := 15) rfl rfl, by decide +kernel⟩, j_in6 (i := 153) rfl rfl, j_inS (i := 72) rfl rfl, TX12, 56, rfl⟩
set_option maxRecDepth 20000 in
theorem mv12_180 : jmv RX12 180 yX12_laysBack cX12_laysBack 3 none 1 12 := ⟨⟨j_in6 (i := 179) rfl rfl, j_in6 (i := 182) rfl rfl, j_in1 (i := 15) rfl rfl, by decide +kernel⟩, j_in6 (i := 181) rfl rfl, j_inS (i := 73) rfl rfl, TX12, 56, rfl⟩
set_option maxRecDepth 20000 in
theorem mv12_192 : jmv RX12 192 yX12_isEmpty cX12_isEmpty 2 (some .boolean) 1 12 := ⟨⟨j_in6 (i := 87) rfl rfl, j_in6 (i := 90) rfl rfl, j_in1 (i := 15) rfl rfl, by decide +kernel⟩, j_in6 (i := 89) rfl rfl, j_inS (i := 57) rfl rfl, TX12, 56, rfl⟩
set_option maxRecDepth 20000 in
theorem mv12_195 : jmv RX12 195 yX12_areEmpty cX12_areEmpty 4 (some .boolean) 2 12 := ⟨⟨j_in6 (i := 83) rfl rfl, j_in6 (i := 86) rfl rfl, j_in1 (i := 15) rfl rfl, by decide +kernel⟩, j_in6 (i := 85) rfl rfl, j_inS (i := 56) rfl rfl, TX12, 56, rfl⟩
set_option maxRecDepth 20000 in
theorem mv12_199 : jmv RX12 199 yX12_firstOf cX12_firstOf 6 (some .int) 2 12 := ⟨⟨j_in6 (i := 91) rfl rfl, j_in6 (i := 94) rfl rfl, j_in1 (i := 15) rfl rfl, by decide +kernel⟩, j_in6 (i := 93) rfl rfl, j_inS (i := 58) rfl rfl, TX12, 56, rfl⟩
set_option maxRecDepth 20000 in
theorem mv12_202 : jmv RX12 202 yX12_grows cX12_grows 8 (some .boolean) 0 12 := ⟨⟨j_in6 (i := 79) rfl rfl, j_in6 (i := 82) rfl rfl, j_in1 (i := 15) rfl rfl, by decide +kernel⟩, j_in6 (i := 81) rfl rfl, j_inS (i := 55) rfl rfl, TX12, 56, rfl⟩
set_option maxRecDepth 20000 in
theorem mv12_206 : jmv RX12 206 yX12_shortens cX12_shortens 3 none 0 12 := ⟨⟨j_in6 (i := 95) rfl rfl, j_in6 (i := 98) rfl rfl, j_in1 (i := 15) rfl rfl, by decide +kernel⟩, j_in6 (i := 97) rfl rfl, j_inS (i := 59) rfl rfl, TX12, 56, rfl⟩
set_option maxRecDepth 20000 in
theorem mv12_209 : jmv RX12 209 yX12_selects cX12_selects 2 (some .int) 1 12 := ⟨⟨j_in6 (i := 199) rfl rfl, j_in6 (i := 202) rfl rfl, j_in1 (i := 15) rfl rfl, by decide +kernel⟩, j_in6 (i := 201) rfl rfl, j_inS (i := 74) rfl rfl, TX12, 56, rfl⟩
set_option maxRecDepth 20000 in
theorem mv12_215 : jmv RX12 215 yX12_adds cX12_adds 2 none 1 12 := ⟨⟨j_in6 (i := 111) rfl rfl, j_in6 (i := 114) rfl rfl, j_in1 (i := 15) rfl rfl, by decide +kernel⟩, j_in6 (i := 113) rfl rfl, j_inS (i := 63) rfl rfl, TX12, 56, rfl⟩
set_option maxRecDepth 20000 in
theorem mv12_218 : jmv RX12 218 yX12_addsSlot cX12_addsSlot 3 none 1 12 := ⟨⟨j_in6 (i := 115) rfl rfl, j_in6 (i := 118) rfl rfl, j_in1 (i := 15) rfl rfl, by decide +kernel⟩, j_in6 (i := 117) rfl rfl, j_inS (i := 64) rfl rfl, TX12, 56, rfl⟩
set_option maxRecDepth 20000 in
theorem mv12_221 : jmv RX12 221 yX12_empties cX12_empties 4 none 2 12 := ⟨⟨j_in6 (i := 99) rfl rfl, j_in6 (i := 102) rfl rfl, j_in1 (i := 15) rfl rfl, by decide +kernel⟩, j_in6 (i := 101) rfl rfl, j_inS (i := 60) rfl rfl, TX12, 56, rfl⟩
set_option maxRecDepth 20000 in
theorem mv12_223 : jmv RX12 223 yX12_tries cX12_tries 1 none 0 12 := ⟨⟨j_in6 (i := 103) rfl rfl, j_in6 (i := 106) rfl rfl, j_in1 (i := 15) rfl rfl, by decide +kernel⟩, j_in6 (i := 105) rfl rfl, j_inS (i := 61) rfl rfl, TX12, 56, rfl⟩
set_option maxRecDepth 20000 in
theorem mv12_226 : jmv RX12 226 yX12_addsShortest cX12_addsShortest 5 none 3 12 := ⟨⟨j_in6 (i := 107) rfl rfl, j_in6 (i := 110) rfl rfl, j_in1 (i := 15) rfl rfl, by decide +kernel⟩, j_in6 (i := 109) rfl rfl, j_inS (i := 62) rfl rfl, TX12, 56, rfl⟩
set_option maxRecDepth 20000 in
theorem mv12_229 : jmv RX12 229 yX12_betters cX12_betters 3 (some .boolean) 1 12 := ⟨⟨j_in6 (i := 119) rfl rfl, j_in6 (i := 122) rfl rfl, j_in1 (i := 15) rfl rfl, by decide +kernel⟩, j_in6 (i := 121) rfl rfl, j_inS (i := 65) rfl rfl, TX12, 56, rfl⟩
set_option maxRecDepth 20000 in
theorem mv12_232 : jmv RX12 232 yX12_addsBegun cX12_addsBegun 4 none 3 12 := ⟨⟨j_in7 (i := 36) rfl rfl, j_in7 (i := 39) rfl rfl, j_in1 (i := 15) rfl rfl, by decide +kernel⟩, j_in7 (i := 38) rfl rfl, j_inS (i := 82) rfl rfl, TX12, 56, rfl⟩
set_option maxRecDepth 20000 in
theorem mv12_235 : jmv RX12 235 yX12_begins cX12_begins 5 (some .boolean) 2 12 := ⟨⟨j_in7 (i := 32) rfl rfl, j_in7 (i := 35) rfl rfl, j_in1 (i := 15) rfl rfl, by decide +kernel⟩, j_in7 (i := 34) rfl rfl, j_inS (i := 81) rfl rfl, TX12, 56, rfl⟩
set_option maxRecDepth 20000 in
theorem mv12_238 : jmv RX12 238 yX12_replaces cX12_replaces 7 (some .boolean) 2 12 := ⟨⟨j_in7 (i := 40) rfl rfl, j_in7 (i := 43) rfl rfl, j_in1 (i := 15) rfl rfl, by decide +kernel⟩, j_in7 (i := 42) rfl rfl, j_inS (i := 83) rfl rfl, TX12, 56, rfl⟩
set_option maxRecDepth 20000 in
theorem mv12_241 : jmv RX12 241 yX12_entry cX12_entry 4 (some .int) 2 12 := ⟨⟨j_in6 (i := 231) rfl rfl, j_in6 (i := 234) rfl rfl, j_in1 (i := 15) rfl rfl, by decide +kernel⟩, j_in6 (i := 233) rfl rfl, j_inS (i := 75) rfl rfl, TX12, 56, rfl⟩
set_option maxRecDepth 20000 in
theorem mv12_257 : jmv RX12 257 yX12_conflicts cX12_conflicts 7 (some .int) 1 12 := ⟨⟨j_in7 (i := 4) rfl rfl, j_in7 (i := 7) rfl rfl, j_in1 (i := 15) rfl rfl, by decide +kernel⟩, j_in7 (i := 6) rfl rfl, j_inS (i := 77) rfl rfl, TX12, 56, rfl⟩
set_option maxRecDepth 20000 in
theorem mv12_260 : jmv RX12 260 yX12_conflictMany cX12_conflictMany 1 (some .int) 0 12 := ⟨⟨j_in6 (i := 239) rfl rfl, j_in7 (i := 2) rfl rfl, j_in1 (i := 15) rfl rfl, by decide +kernel⟩, j_in7 (i := 1) rfl rfl, j_inS (i := 76) rfl rfl, TX12, 56, rfl⟩
set_option maxRecDepth 20000 in
theorem mv12_264 : jmv RX12 264 yX12_isConflict cX12_isConflict 2 (some .boolean) 1 12 := ⟨⟨j_in7 (i := 12) rfl rfl, j_in7 (i := 15) rfl rfl, j_in1 (i := 15) rfl rfl, by decide +kernel⟩, j_in7 (i := 14) rfl rfl, j_inS (i := 78) rfl rfl, TX12, 56, rfl⟩
set_option maxRecDepth 20000 in
theorem mv12_267 : jmv RX12 267 yX12_kindNow cX12_kindNow 1 (some .int) 0 12 := ⟨⟨j_in7 (i := 20) rfl rfl, j_in7 (i := 23) rfl rfl, j_in1 (i := 15) rfl rfl, by decide +kernel⟩, j_in7 (i := 22) rfl rfl, j_inS (i := 79) rfl rfl, TX12, 56, rfl⟩
set_option maxRecDepth 20000 in
theorem mv12_270 : jmv RX12 270 yX12_example cX12_example 7 (some .int) 3 12 := ⟨⟨j_in7 (i := 28) rfl rfl, j_in7 (i := 31) rfl rfl, j_in1 (i := 15) rfl rfl, by decide +kernel⟩, j_in7 (i := 30) rfl rfl, j_inS (i := 80) rfl rfl, TX12, 56, rfl⟩
set_option maxRecDepth 20000 in
theorem mv12_274 : jmv RX12 274 yX12_common cX12_common 4 (some .int) 2 12 := ⟨⟨j_in7 (i := 56) rfl rfl, j_in7 (i := 59) rfl rfl, j_in1 (i := 15) rfl rfl, by decide +kernel⟩, j_in7 (i := 58) rfl rfl, j_inS (i := 84) rfl rfl, TX12, 56, rfl⟩
set_option maxRecDepth 20000 in
theorem mv12_277 : jmv RX12 277 yX12_unused cX12_unused 5 (some .int) 1 12 := ⟨⟨j_in7 (i := 60) rfl rfl, j_in7 (i := 63) rfl rfl, j_in1 (i := 15) rfl rfl, by decide +kernel⟩, j_in7 (i := 62) rfl rfl, j_inS (i := 85) rfl rfl, TX12, 56, rfl⟩
set_option maxRecDepth 20000 in
theorem mv12_280 : jmv RX12 280 yX12_refuses cX12_refuses 5 (some .int) 4 12 := ⟨⟨j_in7 (i := 64) rfl rfl, j_in7 (i := 67) rfl rfl, j_in1 (i := 15) rfl rfl, by decide +kernel⟩, j_in7 (i := 66) rfl rfl, j_inS (i := 86) rfl rfl, TX12, 56, rfl⟩
set_option maxRecDepth 20000 in
theorem mv12_284 : jmv RX12 284 yX12_isRecursive cX12_isRecursive 3 (some .boolean) 2 12 := ⟨⟨j_in7 (i := 72) rfl rfl, j_in7 (i := 75) rfl rfl, j_in1 (i := 15) rfl rfl, by decide +kernel⟩, j_in7 (i := 74) rfl rfl, j_inS (i := 87) rfl rfl, TX12, 56, rfl⟩
set_option maxRecDepth 20000 in
theorem mv12_308 : jmv RX12 308 yX12_token cX12_token 1 (some .int) 0 12 := ⟨⟨j_in7 (i := 104) rfl rfl, j_in7 (i := 107) rfl rfl, j_in1 (i := 15) rfl rfl, by decide +kernel⟩, j_in7 (i := 106) rfl rfl, j_inS (i := 90) rfl rfl, TX12, 56, rfl⟩
set_option maxRecDepth 20000 in
theorem mv12_311 : jmv RX12 311 yX12_starts cX12_starts 1 none 0 12 := ⟨⟨j_in7 (i := 96) rfl rfl, j_in7 (i := 99) rfl rfl, j_in1 (i := 15) rfl rfl, by decide +kernel⟩, j_in7 (i := 98) rfl rfl, j_inS (i := 88) rfl rfl, TX12, 56, rfl⟩
set_option maxRecDepth 20000 in
theorem mv12_314 : jmv RX12 314 yX12_isDone cX12_isDone 1 (some .boolean) 0 12 := ⟨⟨j_in7 (i := 100) rfl rfl, j_in7 (i := 103) rfl rfl, j_in1 (i := 15) rfl rfl, by decide +kernel⟩, j_in7 (i := 102) rfl rfl, j_inS (i := 89) rfl rfl, TX12, 56, rfl⟩
set_option maxRecDepth 20000 in
theorem mv12_317 : jmv RX12 317 yX12_canGo cX12_canGo 2 (some .boolean) 0 12 := ⟨⟨j_in7 (i := 108) rfl rfl, j_in7 (i := 111) rfl rfl, j_in1 (i := 15) rfl rfl, by decide +kernel⟩, j_in7 (i := 110) rfl rfl, j_inS (i := 91) rfl rfl, TX12, 56, rfl⟩
set_option maxRecDepth 20000 in
theorem mv12_320 : jmv RX12 320 yX12_stops cX12_stops 1 (some .int) 0 12 := ⟨⟨j_in7 (i := 112) rfl rfl, j_in7 (i := 115) rfl rfl, j_in1 (i := 15) rfl rfl, by decide +kernel⟩, j_in7 (i := 114) rfl rfl, j_inS (i := 92) rfl rfl, TX12, 56, rfl⟩
set_option maxRecDepth 20000 in
theorem mv12_323 : jmv RX12 323 yX12_goes cX12_goes 5 (some .boolean) 0 12 := ⟨⟨j_in7 (i := 116) rfl rfl, j_in7 (i := 119) rfl rfl, j_in1 (i := 15) rfl rfl, by decide +kernel⟩, j_in7 (i := 118) rfl rfl, j_inS (i := 93) rfl rfl, TX12, 56, rfl⟩
set_option maxRecDepth 20000 in
theorem mv12_326 : jmv RX12 326 yX12_hasRules cX12_hasRules 3 (some .boolean) 1 12 := ⟨⟨j_in7 (i := 120) rfl rfl, j_in7 (i := 123) rfl rfl, j_in1 (i := 15) rfl rfl, by decide +kernel⟩, j_in7 (i := 122) rfl rfl, j_inS (i := 94) rfl rfl, TX12, 56, rfl⟩
set_option maxRecDepth 20000 in
theorem mv12_329 : jmv RX12 329 yX12_entries cX12_entries 4 (some .int) 1 12 := ⟨⟨j_in7 (i := 124) rfl rfl, j_in7 (i := 127) rfl rfl, j_in1 (i := 15) rfl rfl, by decide +kernel⟩, j_in7 (i := 126) rfl rfl, j_inS (i := 95) rfl rfl, TX12, 56, rfl⟩
set_option maxRecDepth 20000 in
theorem mv12_335 : jmv RX12 335 yX12_errs cX12_errs 2 none 1 12 := ⟨⟨j_in7 (i := 132) rfl rfl, j_in7 (i := 135) rfl rfl, j_in1 (i := 15) rfl rfl, by decide +kernel⟩, j_in7 (i := 134) rfl rfl, j_inS (i := 96) rfl rfl, TX12, 56, rfl⟩
set_option maxRecDepth 20000 in
theorem mv12_338 : jmv RX12 338 yX12_weighs cX12_weighs 6 (some .int) 3 12 := ⟨⟨j_in7 (i := 192) rfl rfl, j_in7 (i := 195) rfl rfl, j_in1 (i := 15) rfl rfl, by decide +kernel⟩, j_in7 (i := 194) rfl rfl, j_inS (i := 102) rfl rfl, TX12, 56, rfl⟩
set_option maxRecDepth 20000 in
theorem mv12_342 : jmv RX12 342 yX12_isLess cX12_isLess 7 (some .boolean) 3 12 := ⟨⟨j_in7 (i := 188) rfl rfl, j_in7 (i := 191) rfl rfl, j_in1 (i := 15) rfl rfl, by decide +kernel⟩, j_in7 (i := 190) rfl rfl, j_inS (i := 101) rfl rfl, TX12, 56, rfl⟩
set_option maxRecDepth 20000 in
theorem mv12_346 : jmv RX12 346 yX12_copies cX12_copies 5 none 3 12 := ⟨⟨j_in7 (i := 180) rfl rfl, j_in7 (i := 183) rfl rfl, j_in1 (i := 15) rfl rfl, by decide +kernel⟩, j_in7 (i := 182) rfl rfl, j_inS (i := 99) rfl rfl, TX12, 56, rfl⟩
set_option maxRecDepth 20000 in
theorem mv12_350 : jmv RX12 350 yX12_reaches cX12_reaches 5 none 2 12 := ⟨⟨j_in7 (i := 184) rfl rfl, j_in7 (i := 187) rfl rfl, j_in1 (i := 15) rfl rfl, by decide +kernel⟩, j_in7 (i := 186) rfl rfl, j_inS (i := 100) rfl rfl, TX12, 56, rfl⟩
set_option maxRecDepth 20000 in
theorem mv12_353 : jmv RX12 353 yX12_extends1 cX12_extends1 8 none 3 12 := ⟨⟨j_in7 (i := 176) rfl rfl, j_in7 (i := 179) rfl rfl, j_in1 (i := 15) rfl rfl, by decide +kernel⟩, j_in7 (i := 178) rfl rfl, j_inS (i := 98) rfl rfl, TX12, 56, rfl⟩
set_option maxRecDepth 20000 in
theorem mv12_356 : jmv RX12 356 yX12_mends cX12_mends 8 (some .boolean) 2 12 := ⟨⟨j_in7 (i := 172) rfl rfl, j_in7 (i := 175) rfl rfl, j_in1 (i := 15) rfl rfl, by decide +kernel⟩, j_in7 (i := 174) rfl rfl, j_inS (i := 97) rfl rfl, TX12, 56, rfl⟩
