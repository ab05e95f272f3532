theorem lw_aI : Cond.arrayClass .int ∈ jtb := j_in1 (i := 48) rfl rfl
theorem lw_aL : Cond.arrayClass .long ∈ jtb := j_in2 (i := 22) rfl rfl
theorem lw_obI : Cond.instanceMethod objectInit ∈ jtb := j_in1 (i := 22) rfl rfl
theorem lw_obC : Cond.code objectInit ⟨#[0xb1]⟩ 1 none ∈ jtb := j_in1 (i := 23) rfl rfl
set_option maxRecDepth 20000 in
theorem fp6_9 : jfp RX6 9 6 0 (.array .int) true := ⟨RX6, TX6, 2, tyX6, rfl, by decide, inX6, j_in1 (i := 30) rfl rfl, tyX6_ok, nmX6, rfl, by decide +kernel, rfl⟩
set_option maxRecDepth 20000 in
theorem ko6_3 : Cond.methodLink RX6 3 objectInit ∈ jtb := j_in1 (i := 29) rfl rfl
set_option maxRecDepth 20000 in
theorem fp1_13 : jfp RX1 13 1 1 (.array .int) true := ⟨RX1, TX1, 3, tyX1, rfl, by decide, inX1, j_in1 (i := 128) rfl rfl, tyX1_ok, nmX1, rfl, by decide +kernel, rfl⟩
set_option maxRecDepth 20000 in
theorem fp1_9 : jfp RX1 9 1 0 (.array .int) true := ⟨RX1, TX1, 3, tyX1, rfl, by decide, inX1, j_in1 (i := 126) rfl rfl, tyX1_ok, nmX1, rfl, by decide +kernel, rfl⟩
set_option maxRecDepth 20000 in
theorem ko1_1 : Cond.methodLink RX1 1 objectInit ∈ jtb := j_in1 (i := 125) rfl rfl
set_option maxRecDepth 20000 in
theorem fp3_9 : jfp RX3 9 3 0 (.array .int) true := ⟨RX3, TX3, 2, tyX3, rfl, by decide, inX3, j_in1 (i := 145) rfl rfl, tyX3_ok, nmX3, rfl, by decide +kernel, rfl⟩
set_option maxRecDepth 20000 in
theorem ko3_3 : Cond.methodLink RX3 3 objectInit ∈ jtb := j_in1 (i := 144) rfl rfl
set_option maxRecDepth 20000 in
theorem fp9_15 : jfp RX9 15 9 1 (.array .int) true := ⟨RX9, TX9, 4, tyX9, rfl, by decide, inX9, j_in1 (i := 170) rfl rfl, tyX9_ok, nmX9, rfl, by decide +kernel, rfl⟩
set_option maxRecDepth 20000 in
theorem fp9_18 : jfp RX9 18 9 2 (.array .int) true := ⟨RX9, TX9, 4, tyX9, rfl, by decide, inX9, j_in1 (i := 172) rfl rfl, tyX9_ok, nmX9, rfl, by decide +kernel, rfl⟩
set_option maxRecDepth 20000 in
theorem fp9_9 : jfp RX9 9 9 0 (.array .int) true := ⟨RX9, TX9, 4, tyX9, rfl, by decide, inX9, j_in1 (i := 168) rfl rfl, tyX9_ok, nmX9, rfl, by decide +kernel, rfl⟩
set_option maxRecDepth 20000 in
theorem ko9_3 : Cond.methodLink RX9 3 objectInit ∈ jtb := j_in1 (i := 167) rfl rfl
set_option maxRecDepth 20000 in
theorem fp7_15 : jfp RX7 15 7 2 (.array .int) true := ⟨RX7, TX7, 4, tyX7, rfl, by decide, inX7, j_in1 (i := 79) rfl rfl, tyX7_ok, nmX7, rfl, by decide +kernel, rfl⟩
set_option maxRecDepth 20000 in
theorem fp7_18 : jfp RX7 18 7 3 (.array .int) true := ⟨RX7, TX7, 4, tyX7, rfl, by decide, inX7, j_in1 (i := 83) rfl rfl, tyX7_ok, nmX7, rfl, by decide +kernel, rfl⟩
set_option maxRecDepth 20000 in
theorem fp7_9 : jfp RX7 9 7 1 (.array .int) true := ⟨RX7, TX7, 4, tyX7, rfl, by decide, inX7, j_in1 (i := 77) rfl rfl, tyX7_ok, nmX7, rfl, by decide +kernel, rfl⟩
set_option maxRecDepth 20000 in
theorem ko7_3 : Cond.methodLink RX7 3 objectInit ∈ jtb := j_in1 (i := 74) rfl rfl
set_option maxRecDepth 20000 in
theorem fp8_15 : jfp RX8 15 8 3 (.array .int) true := ⟨RX8, TX8, 6, tyX8, rfl, by decide, inX8, j_in1 (i := 103) rfl rfl, tyX8_ok, nmX8, rfl, by decide +kernel, rfl⟩
set_option maxRecDepth 20000 in
theorem fp8_18 : jfp RX8 18 8 4 (.array .int) true := ⟨RX8, TX8, 6, tyX8, rfl, by decide, inX8, j_in1 (i := 104) rfl rfl, tyX8_ok, nmX8, rfl, by decide +kernel, rfl⟩
set_option maxRecDepth 20000 in
theorem fp8_21 : jfp RX8 21 8 0 (.object "PredictiveGrammar$Rules") true := ⟨RX8, TX8, 6, tyX8, rfl, by decide, inX8, j_in1 (i := 99) rfl rfl, tyX8_ok, nmX8, rfl, by decide +kernel, rfl⟩
set_option maxRecDepth 20000 in
theorem fp8_25 : jfp RX8 25 8 1 (.object "PredictiveGrammar$Sets") true := ⟨RX8, TX8, 6, tyX8, rfl, by decide, inX8, j_in1 (i := 100) rfl rfl, tyX8_ok, nmX8, rfl, by decide +kernel, rfl⟩
set_option maxRecDepth 20000 in
theorem fp8_9 : jfp RX8 9 8 2 (.array .int) true := ⟨RX8, TX8, 6, tyX8, rfl, by decide, inX8, j_in1 (i := 101) rfl rfl, tyX8_ok, nmX8, rfl, by decide +kernel, rfl⟩
set_option maxRecDepth 20000 in
theorem ko8_3 : Cond.methodLink RX8 3 objectInit ∈ jtb := j_in1 (i := 98) rfl rfl
set_option maxRecDepth 20000 in
theorem kl2_9 : Cond.classLink RX2 9 "PredictiveGrammar$Rules" ∈ jtb := j_in1 (i := 55) rfl rfl
set_option maxRecDepth 20000 in
theorem fp2_11 : jfp RX2 11 2 0 (.array (.object "PredictiveGrammar$Rules")) true := ⟨RX2, TX2, 3, tyX2, rfl, by decide, inX2, j_in1 (i := 58) rfl rfl, tyX2_ok, nmX2, rfl, by decide +kernel, rfl⟩
set_option maxRecDepth 20000 in
theorem mj2_17 : jmj RX2 17 yX6_init cX6_init 1 0 RX11 := ⟨List.mem_of_getElem? (i := 1) rfl, j_in1 (i := 28) rfl rfl, j_in1 (i := 2) rfl rfl, by decide +kernel, rfl, j_in1 (i := 27) rfl rfl⟩
set_option maxRecDepth 20000 in
theorem nw2_9 : jnw RX2 9 6 2 [.null, .int 0] := ⟨RX6, TX6, tyX6, rfl, j_in1 (i := 55) rfl rfl, j_in1 (i := 25) rfl rfl, j_in1 (i := 2) rfl rfl, inX6, tyX6_ok, fun j hj => match j, hj with | 0, _ => rfl | 1, _ => rfl | j + 2, hj => absurd hj (by omega)⟩
set_option maxRecDepth 20000 in
theorem ko2_3 : Cond.methodLink RX2 3 objectInit ∈ jtb := j_in1 (i := 54) rfl rfl
set_option maxRecDepth 20000 in
theorem fp4_15 : jfp RX4 15 4 5 (.array .int) true := ⟨RX4, TX4, 15, tyX4, rfl, by decide, inX4, j_in1 (i := 192) rfl rfl, tyX4_ok, nmX4, rfl, by decide +kernel, rfl⟩
set_option maxRecDepth 20000 in
theorem fp4_21 : jfp RX4 21 4 7 (.object "PredictiveGrammar$Tree") true := ⟨RX4, TX4, 15, tyX4, rfl, by decide, inX4, j_in1 (i := 196) rfl rfl, tyX4_ok, nmX4, rfl, by decide +kernel, rfl⟩
set_option maxRecDepth 20000 in
theorem fp4_25 : jfp RX4 25 4 8 (.array .int) true := ⟨RX4, TX4, 15, tyX4, rfl, by decide, inX4, j_in1 (i := 198) rfl rfl, tyX4_ok, nmX4, rfl, by decide +kernel, rfl⟩
set_option maxRecDepth 20000 in
theorem fp4_28 : jfp RX4 28 4 10 (.array .int) true := ⟨RX4, TX4, 15, tyX4, rfl, by decide, inX4, j_in1 (i := 200) rfl rfl, tyX4_ok, nmX4, rfl, by decide +kernel, rfl⟩
set_option maxRecDepth 20000 in
theorem fp4_31 : jfp RX4 31 4 11 (.array .int) true := ⟨RX4, TX4, 15, tyX4, rfl, by decide, inX4, j_in1 (i := 201) rfl rfl, tyX4_ok, nmX4, rfl, by decide +kernel, rfl⟩
set_option maxRecDepth 20000 in
theorem fp4_34 : jfp RX4 34 4 0 (.object "PredictiveGrammar$Rules") true := ⟨RX4, TX4, 15, tyX4, rfl, by decide, inX4, j_in1 (i := 186) rfl rfl, tyX4_ok, nmX4, rfl, by decide +kernel, rfl⟩
set_option maxRecDepth 20000 in
theorem fp4_38 : jfp RX4 38 4 1 (.object "PredictiveGrammar$Sets") true := ⟨RX4, TX4, 15, tyX4, rfl, by decide, inX4, j_in1 (i := 187) rfl rfl, tyX4_ok, nmX4, rfl, by decide +kernel, rfl⟩
set_option maxRecDepth 20000 in
theorem fp4_42 : jfp RX4 42 4 2 (.object "PredictiveGrammar$Table") true := ⟨RX4, TX4, 15, tyX4, rfl, by decide, inX4, j_in1 (i := 188) rfl rfl, tyX4_ok, nmX4, rfl, by decide +kernel, rfl⟩
set_option maxRecDepth 20000 in
theorem fp4_46 : jfp RX4 46 4 3 (.object "PredictiveGrammar$Input") true := ⟨RX4, TX4, 15, tyX4, rfl, by decide, inX4, j_in1 (i := 189) rfl rfl, tyX4_ok, nmX4, rfl, by decide +kernel, rfl⟩
set_option maxRecDepth 20000 in
theorem fp4_9 : jfp RX4 9 4 4 (.array .int) true := ⟨RX4, TX4, 15, tyX4, rfl, by decide, inX4, j_in1 (i := 190) rfl rfl, tyX4_ok, nmX4, rfl, by decide +kernel, rfl⟩
set_option maxRecDepth 20000 in
theorem mj4_20 : jmj RX4 20 yX9_init cX9_init 1 0 RX11 := ⟨List.mem_of_getElem? (i := 5) rfl, j_in1 (i := 166) rfl rfl, j_in1 (i := 9) rfl rfl, by decide +kernel, rfl, j_in1 (i := 165) rfl rfl⟩
set_option maxRecDepth 20000 in
theorem nw4_18 : jnw RX4 18 9 4 [.null, .null, .null, .int 0] := ⟨RX9, TX9, tyX9, rfl, j_in1 (i := 162) rfl rfl, j_in1 (i := 163) rfl rfl, j_in1 (i := 9) rfl rfl, inX9, tyX9_ok, fun j hj => match j, hj with | 0, _ => rfl | 1, _ => rfl | 2, _ => rfl | 3, _ => rfl | j + 4, hj => absurd hj (by omega)⟩
set_option maxRecDepth 20000 in
theorem ko4_3 : Cond.methodLink RX4 3 objectInit ∈ jtb := j_in1 (i := 161) rfl rfl
set_option maxRecDepth 20000 in
theorem fp10_17 : jfp RX10 17 10 0 (.array .int) true := ⟨RX10, TX10, 3, tyX10, rfl, by decide, inX10, j_in2 (i := 12) rfl rfl, tyX10_ok, nmX10, rfl, by decide +kernel, rfl⟩
set_option maxRecDepth 20000 in
theorem fp10_21 : jfp RX10 21 10 1 (.array .long) true := ⟨RX10, TX10, 3, tyX10, rfl, by decide, inX10, j_in2 (i := 13) rfl rfl, tyX10_ok, nmX10, rfl, by decide +kernel, rfl⟩
set_option maxRecDepth 20000 in
theorem fp10_25 : jfp RX10 25 10 2 (.array .long) true := ⟨RX10, TX10, 3, tyX10, rfl, by decide, inX10, j_in2 (i := 14) rfl rfl, tyX10_ok, nmX10, rfl, by decide +kernel, rfl⟩
set_option maxRecDepth 20000 in
theorem kj10_11 : Cond.methodLink RX10 11 Lib.Math.max.name ∈ jtb := j_in2 (i := 8) rfl rfl
set_option maxRecDepth 20000 in
theorem ko10_5 : Cond.methodLink RX10 5 objectInit ∈ jtb := j_in2 (i := 7) rfl rfl
set_option maxRecDepth 20000 in
theorem fp0_16 : jfp RX0 16 0 1 (.object "PredictiveGrammar$Words") true := ⟨RX0, TX0, 4, tyX0, rfl, by decide, inX0, j_in2 (i := 24) rfl rfl, tyX0_ok, nmX0, rfl, by decide +kernel, rfl⟩
set_option maxRecDepth 20000 in
theorem fp0_24 : jfp RX0 24 0 0 (.object "PredictiveGrammar$Rules") true := ⟨RX0, TX0, 4, tyX0, rfl, by decide, inX0, j_in2 (i := 23) rfl rfl, tyX0_ok, nmX0, rfl, by decide +kernel, rfl⟩
set_option maxRecDepth 20000 in
theorem mi0_13 : jmi RX0 13 yX10_init cX10_init 3 1 := ⟨⟨j_in2 (i := 4) rfl rfl, j_in2 (i := 6) rfl rfl, j_in1 (i := 11) rfl rfl, by decide +kernel⟩, rfl, j_in2 (i := 5) rfl rfl⟩
set_option maxRecDepth 20000 in
theorem nw0_11 : jnw RX0 11 10 3 [.null, .null, .null] := ⟨RX10, TX10, tyX10, rfl, j_in2 (i := 2) rfl rfl, j_in2 (i := 3) rfl rfl, j_in1 (i := 11) rfl rfl, inX10, tyX10_ok, fun j hj => match j, hj with | 0, _ => rfl | 1, _ => rfl | 2, _ => rfl | j + 3, hj => absurd hj (by omega)⟩
set_option maxRecDepth 20000 in
theorem ko0_5 : Cond.methodLink RX0 5 objectInit ∈ jtb := j_in2 (i := 1) rfl rfl
set_option maxRecDepth 20000 in
theorem fp5_11 : jfp RX5 11 5 2 (.array .int) true := ⟨RX5, TX5, 4, tyX5, rfl, by decide, inX5, j_in2 (i := 47) rfl rfl, tyX5_ok, nmX5, rfl, by decide +kernel, rfl⟩
set_option maxRecDepth 20000 in
theorem fp5_20 : jfp RX5 20 5 3 (.object "PredictiveGrammar$Words") true := ⟨RX5, TX5, 4, tyX5, rfl, by decide, inX5, j_in2 (i := 49) rfl rfl, tyX5_ok, nmX5, rfl, by decide +kernel, rfl⟩
set_option maxRecDepth 20000 in
theorem fp5_24 : jfp RX5 24 5 0 (.object "PredictiveGrammar$Rules") true := ⟨RX5, TX5, 4, tyX5, rfl, by decide, inX5, j_in2 (i := 45) rfl rfl, tyX5_ok, nmX5, rfl, by decide +kernel, rfl⟩
set_option maxRecDepth 20000 in
theorem fp5_28 : jfp RX5 28 5 1 (.object "PredictiveGrammar$Input") true := ⟨RX5, TX5, 4, tyX5, rfl, by decide, inX5, j_in2 (i := 46) rfl rfl, tyX5_ok, nmX5, rfl, by decide +kernel, rfl⟩
set_option maxRecDepth 20000 in
theorem mi5_17 : jmi RX5 17 yX10_init cX10_init 3 1 := ⟨⟨j_in2 (i := 44) rfl rfl, j_in2 (i := 6) rfl rfl, j_in1 (i := 11) rfl rfl, by decide +kernel⟩, rfl, j_in2 (i := 5) rfl rfl⟩
set_option maxRecDepth 20000 in
theorem nw5_15 : jnw RX5 15 10 3 [.null, .null, .null] := ⟨RX10, TX10, tyX10, rfl, j_in2 (i := 43) rfl rfl, j_in2 (i := 3) rfl rfl, j_in1 (i := 11) rfl rfl, inX10, tyX10_ok, fun j hj => match j, hj with | 0, _ => rfl | 1, _ => rfl | 2, _ => rfl | j + 3, hj => absurd hj (by omega)⟩
set_option maxRecDepth 20000 in
theorem ko5_5 : Cond.methodLink RX5 5 objectInit ∈ jtb := j_in2 (i := 42) rfl rfl
set_option maxRecDepth 20000 in
theorem fp12_100 : jfp RX12 100 12 50 (.array .int) true := ⟨RX12, TX12, 56, tyX12, rfl, by decide, inX12, j_in5 (i := 161) rfl rfl, tyX12_ok, nmX12, rfl, by decide +kernel, rfl⟩
set_option maxRecDepth 20000 in
theorem fp12_103 : jfp RX12 103 12 51 (.array .int) true := ⟨RX12, TX12, 56, tyX12, rfl, by decide, inX12, j_in5 (i := 162) rfl rfl, tyX12_ok, nmX12, rfl, by decide +kernel, rfl⟩
set_option maxRecDepth 20000 in
theorem fp12_106 : jfp RX12 106 12 52 (.array .int) true := ⟨RX12, TX12, 56, tyX12, rfl, by decide, inX12, j_in5 (i := 163) rfl rfl, tyX12_ok, nmX12, rfl, by decide +kernel, rfl⟩
set_option maxRecDepth 20000 in
theorem fp12_109 : jfp RX12 109 12 53 (.array .int) true := ⟨RX12, TX12, 56, tyX12, rfl, by decide, inX12, j_in5 (i := 164) rfl rfl, tyX12_ok, nmX12, rfl, by decide +kernel, rfl⟩
set_option maxRecDepth 20000 in
theorem fp12_112 : jfp RX12 112 12 54 (.array .int) true := ⟨RX12, TX12, 56, tyX12, rfl, by decide, inX12, j_in5 (i := 165) rfl rfl, tyX12_ok, nmX12, rfl, by decide +kernel, rfl⟩
set_option maxRecDepth 20000 in
theorem fp12_13 : jfp RX12 13 12 2 (.array .int) true := ⟨RX12, TX12, 56, tyX12, rfl, by decide, inX12, j_in5 (i := 113) rfl rfl, tyX12_ok, nmX12, rfl, by decide +kernel, rfl⟩
set_option maxRecDepth 20000 in
theorem fp12_16 : jfp RX12 16 12 3 (.array .int) true := ⟨RX12, TX12, 56, tyX12, rfl, by decide, inX12, j_in5 (i := 114) rfl rfl, tyX12_ok, nmX12, rfl, by decide +kernel, rfl⟩
set_option maxRecDepth 20000 in
theorem fp12_19 : jfp RX12 19 12 5 (.array .int) true := ⟨RX12, TX12, 56, tyX12, rfl, by decide, inX12, j_in5 (i := 116) rfl rfl, tyX12_ok, nmX12, rfl, by decide +kernel, rfl⟩
set_option maxRecDepth 20000 in
theorem fp12_22 : jfp RX12 22 12 6 (.array .int) true := ⟨RX12, TX12, 56, tyX12, rfl, by decide, inX12, j_in5 (i := 117) rfl rfl, tyX12_ok, nmX12, rfl, by decide +kernel, rfl⟩
set_option maxRecDepth 20000 in
theorem fp12_25 : jfp RX12 25 12 7 (.array .int) true := ⟨RX12, TX12, 56, tyX12, rfl, by decide, inX12, j_in5 (i := 118) rfl rfl, tyX12_ok, nmX12, rfl, by decide +kernel, rfl⟩
set_option maxRecDepth 20000 in
theorem fp12_28 : jfp RX12 28 12 8 (.array .int) true := ⟨RX12, TX12, 56, tyX12, rfl, by decide, inX12, j_in5 (i := 119) rfl rfl, tyX12_ok, nmX12, rfl, by decide +kernel, rfl⟩
set_option maxRecDepth 20000 in
theorem fp12_31 : jfp RX12 31 12 10 (.array .int) true := ⟨RX12, TX12, 56, tyX12, rfl, by decide, inX12, j_in5 (i := 121) rfl rfl, tyX12_ok, nmX12, rfl, by decide +kernel, rfl⟩
set_option maxRecDepth 20000 in
theorem fp12_34 : jfp RX12 34 12 11 (.array .int) true := ⟨RX12, TX12, 56, tyX12, rfl, by decide, inX12, j_in5 (i := 122) rfl rfl, tyX12_ok, nmX12, rfl, by decide +kernel, rfl⟩
set_option maxRecDepth 20000 in
theorem fp12_37 : jfp RX12 37 12 12 (.array .int) true := ⟨RX12, TX12, 56, tyX12, rfl, by decide, inX12, j_in5 (i := 123) rfl rfl, tyX12_ok, nmX12, rfl, by decide +kernel, rfl⟩
set_option maxRecDepth 20000 in
theorem fp12_40 : jfp RX12 40 12 15 (.array .int) true := ⟨RX12, TX12, 56, tyX12, rfl, by decide, inX12, j_in5 (i := 126) rfl rfl, tyX12_ok, nmX12, rfl, by decide +kernel, rfl⟩
set_option maxRecDepth 20000 in
theorem fp12_43 : jfp RX12 43 12 16 (.array .int) true := ⟨RX12, TX12, 56, tyX12, rfl, by decide, inX12, j_in5 (i := 127) rfl rfl, tyX12_ok, nmX12, rfl, by decide +kernel, rfl⟩
set_option maxRecDepth 20000 in
theorem fp12_46 : jfp RX12 46 12 19 (.array .int) true := ⟨RX12, TX12, 56, tyX12, rfl, by decide, inX12, j_in5 (i := 130) rfl rfl, tyX12_ok, nmX12, rfl, by decide +kernel, rfl⟩
set_option maxRecDepth 20000 in
theorem fp12_49 : jfp RX12 49 12 20 (.array .int) true := ⟨RX12, TX12, 56, tyX12, rfl, by decide, inX12, j_in5 (i := 131) rfl rfl, tyX12_ok, nmX12, rfl, by decide +kernel, rfl⟩
set_option maxRecDepth 20000 in
theorem fp12_52 : jfp RX12 52 12 21 (.array .int) true := ⟨RX12, TX12, 56, tyX12, rfl, by decide, inX12, j_in5 (i := 132) rfl rfl, tyX12_ok, nmX12, rfl, by decide +kernel, rfl⟩
set_option maxRecDepth 20000 in
theorem fp12_55 : jfp RX12 55 12 22 (.array .int) true := ⟨RX12, TX12, 56, tyX12, rfl, by decide, inX12, j_in5 (i := 133) rfl rfl, tyX12_ok, nmX12, rfl, by decide +kernel, rfl⟩
set_option maxRecDepth 20000 in
theorem fp12_58 : jfp RX12 58 12 23 (.array .int) true := ⟨RX12, TX12, 56, tyX12, rfl, by decide, inX12, j_in5 (i := 134) rfl rfl, tyX12_ok, nmX12, rfl, by decide +kernel, rfl⟩
set_option maxRecDepth 20000 in
theorem fp12_61 : jfp RX12 61 12 29 (.array .int) true := ⟨RX12, TX12, 56, tyX12, rfl, by decide, inX12, j_in5 (i := 140) rfl rfl, tyX12_ok, nmX12, rfl, by decide +kernel, rfl⟩
set_option maxRecDepth 20000 in
theorem fp12_64 : jfp RX12 64 12 30 (.array .int) true := ⟨RX12, TX12, 56, tyX12, rfl, by decide, inX12, j_in5 (i := 141) rfl rfl, tyX12_ok, nmX12, rfl, by decide +kernel, rfl⟩
set_option maxRecDepth 20000 in
theorem fp12_67 : jfp RX12 67 12 31 (.array .int) true := ⟨RX12, TX12, 56, tyX12, rfl, by decide, inX12, j_in5 (i := 142) rfl rfl, tyX12_ok, nmX12, rfl, by decide +kernel, rfl⟩
set_option maxRecDepth 20000 in
theorem fp12_70 : jfp RX12 70 12 32 (.array .int) true := ⟨RX12, TX12, 56, tyX12, rfl, by decide, inX12, j_in5 (i := 143) rfl rfl, tyX12_ok, nmX12, rfl, by decide +kernel, rfl⟩
set_option maxRecDepth 20000 in
theorem fp12_73 : jfp RX12 73 12 34 (.array .int) true := ⟨RX12, TX12, 56, tyX12, rfl, by decide, inX12, j_in5 (i := 145) rfl rfl, tyX12_ok, nmX12, rfl, by decide +kernel, rfl⟩
set_option maxRecDepth 20000 in
theorem fp12_76 : jfp RX12 76 12 35 (.array .int) true := ⟨RX12, TX12, 56, tyX12, rfl, by decide, inX12, j_in5 (i := 146) rfl rfl, tyX12_ok, nmX12, rfl, by decide +kernel, rfl⟩
set_option maxRecDepth 20000 in
theorem fp12_79 : jfp RX12 79 12 40 (.array .int) true := ⟨RX12, TX12, 56, tyX12, rfl, by decide, inX12, j_in5 (i := 151) rfl rfl, tyX12_ok, nmX12, rfl, by decide +kernel, rfl⟩
set_option maxRecDepth 20000 in
theorem fp12_82 : jfp RX12 82 12 43 (.array .int) true := ⟨RX12, TX12, 56, tyX12, rfl, by decide, inX12, j_in5 (i := 154) rfl rfl, tyX12_ok, nmX12, rfl, by decide +kernel, rfl⟩
set_option maxRecDepth 20000 in
theorem fp12_85 : jfp RX12 85 12 44 (.array .int) true := ⟨RX12, TX12, 56, tyX12, rfl, by decide, inX12, j_in5 (i := 155) rfl rfl, tyX12_ok, nmX12, rfl, by decide +kernel, rfl⟩
set_option maxRecDepth 20000 in
theorem fp12_88 : jfp RX12 88 12 46 (.array .int) true := ⟨RX12, TX12, 56, tyX12, rfl, by decide, inX12, j_in5 (i := 157) rfl rfl, tyX12_ok, nmX12, rfl, by decide +kernel, rfl⟩
set_option maxRecDepth 20000 in
theorem fp12_9 : jfp RX12 9 12 1 (.array .int) true := ⟨RX12, TX12, 56, tyX12, rfl, by decide, inX12, j_in5 (i := 112) rfl rfl, tyX12_ok, nmX12, rfl, by decide +kernel, rfl⟩
set_option maxRecDepth 20000 in
theorem fp12_91 : jfp RX12 91 12 47 (.array .int) true := ⟨RX12, TX12, 56, tyX12, rfl, by decide, inX12, j_in5 (i := 158) rfl rfl, tyX12_ok, nmX12, rfl, by decide +kernel, rfl⟩
set_option maxRecDepth 20000 in
theorem fp12_94 : jfp RX12 94 12 48 (.array .int) true := ⟨RX12, TX12, 56, tyX12, rfl, by decide, inX12, j_in5 (i := 159) rfl rfl, tyX12_ok, nmX12, rfl, by decide +kernel, rfl⟩
set_option maxRecDepth 20000 in
theorem fp12_97 : jfp RX12 97 12 49 (.array .int) true := ⟨RX12, TX12, 56, tyX12, rfl, by decide, inX12, j_in5 (i := 160) rfl rfl, tyX12_ok, nmX12, rfl, by decide +kernel, rfl⟩
set_option maxRecDepth 20000 in
theorem ko12_3 : Cond.methodLink RX12 3 objectInit ∈ jtb := j_in5 (i := 110) rfl rfl
theorem d6_init_0 : jda cX6_init 0 0 1 := Or.inl ⟨0, by decide +kernel⟩
theorem d6_init_1 : jd cX6_init 1 (.invokespecial 3) 3 4 := by decide +kernel
theorem d6_init_4 : jda cX6_init 4 0 5 := Or.inl ⟨0, by decide +kernel⟩
theorem d6_init_5 : jdk cX6_init 5 24 7 := Or.inr (Or.inl ⟨24, by decide +kernel⟩)
theorem d6_init_7 : jd cX6_init 7 (.newarray .int) 2 9 := by decide +kernel
theorem d6_init_9 : jd cX6_init 9 (.putfield 9) 3 12 := by decide +kernel
theorem d6_init_12 : decode cX6_init 12 = .ok (.return_, 1) := by decide +kernel
def fX6_init : Option (Unit) :=
some ()
set_option maxHeartbeats 4000000 in
set_option maxRecDepth 100000 in
theorem kX6_init (l : Launch) (D : va_G) (tc : jTC) (h_  : Nat) : ctC l D tc yX6_init (Cond.code yX6_init cX6_init 1 none :: jtb) ({ frames := 1, cells := 1, slots := 24, locals := 20 } : Room) [.ref h_] [(h_, .inr (6, [.null, .int 0]))] 1 24 (fX6_init) (fun (o : Unit) w => ∃ q1, w = [(h_, .inr (6, [.ref q1, .int 0])), (q1, .inl (tc.1, 24, .inl (fun _ => 0)))]) := by
  refine ctC_of (lv0 := [(0, .ref h_)]) (by decide +kernel) rfl (Nat.le_of_ble_eq_true rfl) rfl (fun X C hin => ?_)
  unfold fX6_init
  refine j_aload C d6_init_0 0 rfl ?_
  refine j_objInit C d6_init_1 ko6_3 lw_obI lw_obC ⟨(Nat.le_of_ble_eq_true rfl), (Nat.le_of_ble_eq_true rfl)⟩ (Nat.le_of_ble_eq_true rfl) ?_
  refine j_aload C d6_init_4 0 rfl ?_
  refine j_const C d6_init_5 ?_
  refine j_newi (N := 24) C (fun q1 => [(h_, .inr (6, [.null, .int 0])), (q1, .inl (tc.1, 24, .inl (fun _ => 0)))]) d6_init_7 lw_aI rfl (Nat.le_of_ble_eq_true rfl) ⟨(Nat.le_of_ble_eq_true rfl), (Nat.le_of_ble_eq_true rfl)⟩ (fun _ => rfl) (fun q1 => ?_)
  refine j_putF C hin d6_init_9 fp6_9 0 rfl rfl rfl (Nat.le_of_ble_eq_true rfl) (ws' := [(h_, .inr (6, [.ref q1, .int 0])), (q1, .inl (tc.1, 24, .inl (fun _ => 0)))]) rfl ?_
  exact j_cret C d6_init_12 ⟨_, rfl⟩

theorem d1_init_0 : jda cX1_init 0 0 1 := Or.inl ⟨0, by decide +kernel⟩
theorem d1_init_1 : jd cX1_init 1 (.invokespecial 1) 3 4 := by decide +kernel
theorem d1_init_4 : jda cX1_init 4 0 5 := Or.inl ⟨0, by decide +kernel⟩
theorem d1_init_5 : jdk cX1_init 5 3 6 := Or.inl ⟨3, by decide +kernel⟩
theorem d1_init_6 : jd cX1_init 6 (.newarray .int) 2 8 := by decide +kernel
theorem d1_init_8 : jd cX1_init 8 (.putfield 9) 3 11 := by decide +kernel
theorem d1_init_11 : jda cX1_init 11 0 12 := Or.inl ⟨0, by decide +kernel⟩
theorem d1_init_12 : jdk cX1_init 12 3 13 := Or.inl ⟨3, by decide +kernel⟩
theorem d1_init_13 : jd cX1_init 13 (.newarray .int) 2 15 := by decide +kernel
theorem d1_init_15 : jd cX1_init 15 (.putfield 13) 3 18 := by decide +kernel
theorem d1_init_18 : decode cX1_init 18 = .ok (.return_, 1) := by decide +kernel
def fX1_init : Option (Unit) :=
some ()
set_option maxHeartbeats 4000000 in
set_option maxRecDepth 100000 in
theorem kX1_init (l : Launch) (D : va_G) (tc : jTC) (h_  : Nat) : ctC l D tc yX1_init (Cond.code yX1_init cX1_init 1 none :: jtb) ({ frames := 1, cells := 2, slots := 6, locals := 20 } : Room) [.ref h_] [(h_, .inr (1, [.null, .null, .int 0]))] 2 6 (fX1_init) (fun (o : Unit) w => ∃ q1 q2, w = [(h_, .inr (1, [.ref q1, .ref q2, .int 0])), (q1, .inl (tc.1, 3, .inl (fun _ => 0))), (q2, .inl (tc.1, 3, .inl (fun _ => 0)))]) := by
  refine ctC_of (lv0 := [(0, .ref h_)]) (by decide +kernel) rfl (Nat.le_of_ble_eq_true rfl) rfl (fun X C hin => ?_)
  unfold fX1_init
  refine j_aload C d1_init_0 0 rfl ?_
  refine j_objInit C d1_init_1 ko1_1 lw_obI lw_obC ⟨(Nat.le_of_ble_eq_true rfl), (Nat.le_of_ble_eq_true rfl)⟩ (Nat.le_of_ble_eq_true rfl) ?_
  refine j_aload C d1_init_4 0 rfl ?_
  refine j_const C d1_init_5 ?_
  refine j_newi (N := 3) C (fun q1 => [(h_, .inr (1, [.null, .null, .int 0])), (q1, .inl (tc.1, 3, .inl (fun _ => 0)))]) d1_init_6 lw_aI rfl (Nat.le_of_ble_eq_true rfl) ⟨(Nat.le_of_ble_eq_true rfl), (Nat.le_of_ble_eq_true rfl)⟩ (fun _ => rfl) (fun q1 => ?_)
  refine j_putF C hin d1_init_8 fp1_9 0 rfl rfl rfl (Nat.le_of_ble_eq_true rfl) (ws' := [(h_, .inr (1, [.ref q1, .null, .int 0])), (q1, .inl (tc.1, 3, .inl (fun _ => 0)))]) rfl ?_
  refine j_aload C d1_init_11 0 rfl ?_
  refine j_const C d1_init_12 ?_
  refine j_newi (N := 3) C (fun q2 => [(h_, .inr (1, [.ref q1, .null, .int 0])), (q1, .inl (tc.1, 3, .inl (fun _ => 0))), (q2, .inl (tc.1, 3, .inl (fun _ => 0)))]) d1_init_13 lw_aI rfl (Nat.le_of_ble_eq_true rfl) ⟨(Nat.le_of_ble_eq_true rfl), (Nat.le_of_ble_eq_true rfl)⟩ (fun _ => rfl) (fun q2 => ?_)
  refine j_putF C hin d1_init_15 fp1_13 0 rfl rfl rfl (Nat.le_of_ble_eq_true rfl) (ws' := [(h_, .inr (1, [.ref q1, .ref q2, .int 0])), (q1, .inl (tc.1, 3, .inl (fun _ => 0))), (q2, .inl (tc.1, 3, .inl (fun _ => 0)))]) rfl ?_
  exact j_cret C d1_init_18 ⟨_, _, rfl⟩

theorem d3_init_0 : jda cX3_init 0 0 1 := Or.inl ⟨0, by decide +kernel⟩
theorem d3_init_1 : jd cX3_init 1 (.invokespecial 3) 3 4 := by decide +kernel
theorem d3_init_4 : jda cX3_init 4 0 5 := Or.inl ⟨0, by decide +kernel⟩
theorem d3_init_5 : jdk cX3_init 5 40 7 := Or.inr (Or.inl ⟨40, by decide +kernel⟩)
theorem d3_init_7 : jd cX3_init 7 (.newarray .int) 2 9 := by decide +kernel
theorem d3_init_9 : jd cX3_init 9 (.putfield 9) 3 12 := by decide +kernel
theorem d3_init_12 : decode cX3_init 12 = .ok (.return_, 1) := by decide +kernel
def fX3_init : Option (Unit) :=
some ()
set_option maxHeartbeats 4000000 in
set_option maxRecDepth 100000 in
theorem kX3_init (l : Launch) (D : va_G) (tc : jTC) (h_  : Nat) : ctC l D tc yX3_init (Cond.code yX3_init cX3_init 1 none :: jtb) ({ frames := 1, cells := 1, slots := 40, locals := 20 } : Room) [.ref h_] [(h_, .inr (3, [.null, .int 0]))] 1 40 (fX3_init) (fun (o : Unit) w => ∃ q1, w = [(h_, .inr (3, [.ref q1, .int 0])), (q1, .inl (tc.1, 40, .inl (fun _ => 0)))]) := by
  refine ctC_of (lv0 := [(0, .ref h_)]) (by decide +kernel) rfl (Nat.le_of_ble_eq_true rfl) rfl (fun X C hin => ?_)
  unfold fX3_init
  refine j_aload C d3_init_0 0 rfl ?_
  refine j_objInit C d3_init_1 ko3_3 lw_obI lw_obC ⟨(Nat.le_of_ble_eq_true rfl), (Nat.le_of_ble_eq_true rfl)⟩ (Nat.le_of_ble_eq_true rfl) ?_
  refine j_aload C d3_init_4 0 rfl ?_
  refine j_const C d3_init_5 ?_
  refine j_newi (N := 40) C (fun q1 => [(h_, .inr (3, [.null, .int 0])), (q1, .inl (tc.1, 40, .inl (fun _ => 0)))]) d3_init_7 lw_aI rfl (Nat.le_of_ble_eq_true rfl) ⟨(Nat.le_of_ble_eq_true rfl), (Nat.le_of_ble_eq_true rfl)⟩ (fun _ => rfl) (fun q1 => ?_)
  refine j_putF C hin d3_init_9 fp3_9 0 rfl rfl rfl (Nat.le_of_ble_eq_true rfl) (ws' := [(h_, .inr (3, [.ref q1, .int 0])), (q1, .inl (tc.1, 40, .inl (fun _ => 0)))]) rfl ?_
  exact j_cret C d3_init_12 ⟨_, rfl⟩

theorem d9_init_0 : jda cX9_init 0 0 1 := Or.inl ⟨0, by decide +kernel⟩
theorem d9_init_1 : jd cX9_init 1 (.invokespecial 3) 3 4 := by decide +kernel
theorem d9_init_4 : jda cX9_init 4 0 5 := Or.inl ⟨0, by decide +kernel⟩
theorem d9_init_5 : jdk cX9_init 5 300 8 := Or.inr (Or.inr ⟨300, by decide +kernel⟩)
theorem d9_init_8 : jd cX9_init 8 (.newarray .int) 2 10 := by decide +kernel
theorem d9_init_10 : jd cX9_init 10 (.putfield 9) 3 13 := by decide +kernel
theorem d9_init_13 : jda cX9_init 13 0 14 := Or.inl ⟨0, by decide +kernel⟩
theorem d9_init_14 : jdk cX9_init 14 300 17 := Or.inr (Or.inr ⟨300, by decide +kernel⟩)
theorem d9_init_17 : jd cX9_init 17 (.newarray .int) 2 19 := by decide +kernel
theorem d9_init_19 : jd cX9_init 19 (.putfield 15) 3 22 := by decide +kernel
theorem d9_init_22 : jda cX9_init 22 0 23 := Or.inl ⟨0, by decide +kernel⟩
theorem d9_init_23 : jdk cX9_init 23 300 26 := Or.inr (Or.inr ⟨300, by decide +kernel⟩)
theorem d9_init_26 : jd cX9_init 26 (.newarray .int) 2 28 := by decide +kernel
theorem d9_init_28 : jd cX9_init 28 (.putfield 18) 3 31 := by decide +kernel
theorem d9_init_31 : decode cX9_init 31 = .ok (.return_, 1) := by decide +kernel
def fX9_init : Option (Unit) :=
some ()
set_option maxHeartbeats 4000000 in
set_option maxRecDepth 100000 in
theorem kX9_init (l : Launch) (D : va_G) (tc : jTC) (h_  : Nat) : ctC l D tc yX9_init (Cond.code yX9_init cX9_init 1 none :: jtb) ({ frames := 1, cells := 3, slots := 900, locals := 20 } : Room) [.ref h_] [(h_, .inr (9, [.null, .null, .null, .int 0]))] 3 900 (fX9_init) (fun (o : Unit) w => ∃ q1 q2 q3, w = [(h_, .inr (9, [.ref q1, .ref q2, .ref q3, .int 0])), (q1, .inl (tc.1, 300, .inl (fun _ => 0))), (q2, .inl (tc.1, 300, .inl (fun _ => 0))), (q3, .inl (tc.1, 300, .inl (fun _ => 0)))]) := by
  refine ctC_of (lv0 := [(0, .ref h_)]) (by decide +kernel) rfl (Nat.le_of_ble_eq_true rfl) rfl (fun X C hin => ?_)
  unfold fX9_init
  refine j_aload C d9_init_0 0 rfl ?_
  refine j_objInit C d9_init_1 ko9_3 lw_obI lw_obC ⟨(Nat.le_of_ble_eq_true rfl), (Nat.le_of_ble_eq_true rfl)⟩ (Nat.le_of_ble_eq_true rfl) ?_
  refine j_aload C d9_init_4 0 rfl ?_
  refine j_const C d9_init_5 ?_
  refine j_newi (N := 300) C (fun q1 => [(h_, .inr (9, [.null, .null, .null, .int 0])), (q1, .inl (tc.1, 300, .inl (fun _ => 0)))]) d9_init_8 lw_aI rfl (Nat.le_of_ble_eq_true rfl) ⟨(Nat.le_of_ble_eq_true rfl), (Nat.le_of_ble_eq_true rfl)⟩ (fun _ => rfl) (fun q1 => ?_)
  refine j_putF C hin d9_init_10 fp9_9 0 rfl rfl rfl (Nat.le_of_ble_eq_true rfl) (ws' := [(h_, .inr (9, [.ref q1, .null, .null, .int 0])), (q1, .inl (tc.1, 300, .inl (fun _ => 0)))]) rfl ?_
  refine j_aload C d9_init_13 0 rfl ?_
  refine j_const C d9_init_14 ?_
  refine j_newi (N := 300) C (fun q2 => [(h_, .inr (9, [.ref q1, .null, .null, .int 0])), (q1, .inl (tc.1, 300, .inl (fun _ => 0))), (q2, .inl (tc.1, 300, .inl (fun _ => 0)))]) d9_init_17 lw_aI rfl (Nat.le_of_ble_eq_true rfl) ⟨(Nat.le_of_ble_eq_true rfl), (Nat.le_of_ble_eq_true rfl)⟩ (fun _ => rfl) (fun q2 => ?_)
  refine j_putF C hin d9_init_19 fp9_15 0 rfl rfl rfl (Nat.le_of_ble_eq_true rfl) (ws' := [(h_, .inr (9, [.ref q1, .ref q2, .null, .int 0])), (q1, .inl (tc.1, 300, .inl (fun _ => 0))), (q2, .inl (tc.1, 300, .inl (fun _ => 0)))]) rfl ?_
  refine j_aload C d9_init_22 0 rfl ?_
  refine j_const C d9_init_23 ?_
  refine j_newi (N := 300) C (fun q3 => [(h_, .inr (9, [.ref q1, .ref q2, .null, .int 0])), (q1, .inl (tc.1, 300, .inl (fun _ => 0))), (q2, .inl (tc.1, 300, .inl (fun _ => 0))), (q3, .inl (tc.1, 300, .inl (fun _ => 0)))]) d9_init_26 lw_aI rfl (Nat.le_of_ble_eq_true rfl) ⟨(Nat.le_of_ble_eq_true rfl), (Nat.le_of_ble_eq_true rfl)⟩ (fun _ => rfl) (fun q3 => ?_)
  refine j_putF C hin d9_init_28 fp9_18 0 rfl rfl rfl (Nat.le_of_ble_eq_true rfl) (ws' := [(h_, .inr (9, [.ref q1, .ref q2, .ref q3, .int 0])), (q1, .inl (tc.1, 300, .inl (fun _ => 0))), (q2, .inl (tc.1, 300, .inl (fun _ => 0))), (q3, .inl (tc.1, 300, .inl (fun _ => 0)))]) rfl ?_
  exact j_cret C d9_init_31 ⟨_, _, _, rfl⟩

theorem d7_init_0 : jda cX7_init 0 0 1 := Or.inl ⟨0, by decide +kernel⟩
theorem d7_init_1 : jd cX7_init 1 (.invokespecial 3) 3 4 := by decide +kernel
theorem d7_init_4 : jda cX7_init 4 0 5 := Or.inl ⟨0, by decide +kernel⟩
theorem d7_init_5 : jdk cX7_init 5 8 7 := Or.inr (Or.inl ⟨8, by decide +kernel⟩)
theorem d7_init_7 : jd cX7_init 7 (.newarray .int) 2 9 := by decide +kernel
theorem d7_init_9 : jd cX7_init 9 (.putfield 9) 3 12 := by decide +kernel
theorem d7_init_12 : jda cX7_init 12 0 13 := Or.inl ⟨0, by decide +kernel⟩
theorem d7_init_13 : jdk cX7_init 13 8 15 := Or.inr (Or.inl ⟨8, by decide +kernel⟩)
theorem d7_init_15 : jd cX7_init 15 (.newarray .int) 2 17 := by decide +kernel
theorem d7_init_17 : jd cX7_init 17 (.putfield 15) 3 20 := by decide +kernel
theorem d7_init_20 : jda cX7_init 20 0 21 := Or.inl ⟨0, by decide +kernel⟩
theorem d7_init_21 : jdk cX7_init 21 8 23 := Or.inr (Or.inl ⟨8, by decide +kernel⟩)
theorem d7_init_23 : jd cX7_init 23 (.newarray .int) 2 25 := by decide +kernel
theorem d7_init_25 : jd cX7_init 25 (.putfield 18) 3 28 := by decide +kernel
theorem d7_init_28 : decode cX7_init 28 = .ok (.return_, 1) := by decide +kernel
def fX7_init : Option (Unit) :=
some ()
set_option maxHeartbeats 4000000 in
set_option maxRecDepth 100000 in
theorem kX7_init (l : Launch) (D : va_G) (tc : jTC) (h_  : Nat) : ctC l D tc yX7_init (Cond.code yX7_init cX7_init 1 none :: jtb) ({ frames := 1, cells := 3, slots := 24, locals := 20 } : Room) [.ref h_] [(h_, .inr (7, [.int 0, .null, .null, .null]))] 3 24 (fX7_init) (fun (o : Unit) w => ∃ q1 q2 q3, w = [(h_, .inr (7, [.int 0, .ref q1, .ref q2, .ref q3])), (q1, .inl (tc.1, 8, .inl (fun _ => 0))), (q2, .inl (tc.1, 8, .inl (fun _ => 0))), (q3, .inl (tc.1, 8, .inl (fun _ => 0)))]) := by
  refine ctC_of (lv0 := [(0, .ref h_)]) (by decide +kernel) rfl (Nat.le_of_ble_eq_true rfl) rfl (fun X C hin => ?_)
  unfold fX7_init
  refine j_aload C d7_init_0 0 rfl ?_
  refine j_objInit C d7_init_1 ko7_3 lw_obI lw_obC ⟨(Nat.le_of_ble_eq_true rfl), (Nat.le_of_ble_eq_true rfl)⟩ (Nat.le_of_ble_eq_true rfl) ?_
  refine j_aload C d7_init_4 0 rfl ?_
  refine j_const C d7_init_5 ?_
  refine j_newi (N := 8) C (fun q1 => [(h_, .inr (7, [.int 0, .null, .null, .null])), (q1, .inl (tc.1, 8, .inl (fun _ => 0)))]) d7_init_7 lw_aI rfl (Nat.le_of_ble_eq_true rfl) ⟨(Nat.le_of_ble_eq_true rfl), (Nat.le_of_ble_eq_true rfl)⟩ (fun _ => rfl) (fun q1 => ?_)
  refine j_putF C hin d7_init_9 fp7_9 0 rfl rfl rfl (Nat.le_of_ble_eq_true rfl) (ws' := [(h_, .inr (7, [.int 0, .ref q1, .null, .null])), (q1, .inl (tc.1, 8, .inl (fun _ => 0)))]) rfl ?_
  refine j_aload C d7_init_12 0 rfl ?_
  refine j_const C d7_init_13 ?_
  refine j_newi (N := 8) C (fun q2 => [(h_, .inr (7, [.int 0, .ref q1, .null, .null])), (q1, .inl (tc.1, 8, .inl (fun _ => 0))), (q2, .inl (tc.1, 8, .inl (fun _ => 0)))]) d7_init_15 lw_aI rfl (Nat.le_of_ble_eq_true rfl) ⟨(Nat.le_of_ble_eq_true rfl), (Nat.le_of_ble_eq_true rfl)⟩ (fun _ => rfl) (fun q2 => ?_)
  refine j_putF C hin d7_init_17 fp7_15 0 rfl rfl rfl (Nat.le_of_ble_eq_true rfl) (ws' := [(h_, .inr (7, [.int 0, .ref q1, .ref q2, .null])), (q1, .inl (tc.1, 8, .inl (fun _ => 0))), (q2, .inl (tc.1, 8, .inl (fun _ => 0)))]) rfl ?_
  refine j_aload C d7_init_20 0 rfl ?_
  refine j_const C d7_init_21 ?_
  refine j_newi (N := 8) C (fun q3 => [(h_, .inr (7, [.int 0, .ref q1, .ref q2, .null])), (q1, .inl (tc.1, 8, .inl (fun _ => 0))), (q2, .inl (tc.1, 8, .inl (fun _ => 0))), (q3, .inl (tc.1, 8, .inl (fun _ => 0)))]) d7_init_23 lw_aI rfl (Nat.le_of_ble_eq_true rfl) ⟨(Nat.le_of_ble_eq_true rfl), (Nat.le_of_ble_eq_true rfl)⟩ (fun _ => rfl) (fun q3 => ?_)
  refine j_putF C hin d7_init_25 fp7_18 0 rfl rfl rfl (Nat.le_of_ble_eq_true rfl) (ws' := [(h_, .inr (7, [.int 0, .ref q1, .ref q2, .ref q3])), (q1, .inl (tc.1, 8, .inl (fun _ => 0))), (q2, .inl (tc.1, 8, .inl (fun _ => 0))), (q3, .inl (tc.1, 8, .inl (fun _ => 0)))]) rfl ?_
  exact j_cret C d7_init_28 ⟨_, _, _, rfl⟩

theorem d8_init_0 : jda cX8_init 0 0 1 := Or.inl ⟨0, by decide +kernel⟩
theorem d8_init_1 : jd cX8_init 1 (.invokespecial 3) 3 4 := by decide +kernel
theorem d8_init_4 : jda cX8_init 4 0 5 := Or.inl ⟨0, by decide +kernel⟩
theorem d8_init_5 : jdk cX8_init 5 24 7 := Or.inr (Or.inl ⟨24, by decide +kernel⟩)
theorem d8_init_7 : jd cX8_init 7 (.newarray .int) 2 9 := by decide +kernel
theorem d8_init_9 : jd cX8_init 9 (.putfield 9) 3 12 := by decide +kernel
theorem d8_init_12 : jda cX8_init 12 0 13 := Or.inl ⟨0, by decide +kernel⟩
theorem d8_init_13 : jdk cX8_init 13 72 15 := Or.inr (Or.inl ⟨72, by decide +kernel⟩)
theorem d8_init_15 : jd cX8_init 15 (.newarray .int) 2 17 := by decide +kernel
theorem d8_init_17 : jd cX8_init 17 (.putfield 15) 3 20 := by decide +kernel
theorem d8_init_20 : jda cX8_init 20 0 21 := Or.inl ⟨0, by decide +kernel⟩
theorem d8_init_21 : jdk cX8_init 21 72 23 := Or.inr (Or.inl ⟨72, by decide +kernel⟩)
theorem d8_init_23 : jd cX8_init 23 (.newarray .int) 2 25 := by decide +kernel
theorem d8_init_25 : jd cX8_init 25 (.putfield 18) 3 28 := by decide +kernel
theorem d8_init_28 : jda cX8_init 28 0 29 := Or.inl ⟨0, by decide +kernel⟩
theorem d8_init_29 : jda cX8_init 29 1 30 := Or.inl ⟨1, by decide +kernel⟩
theorem d8_init_30 : jd cX8_init 30 (.putfield 21) 3 33 := by decide +kernel
theorem d8_init_33 : jda cX8_init 33 0 34 := Or.inl ⟨0, by decide +kernel⟩
theorem d8_init_34 : jda cX8_init 34 2 35 := Or.inl ⟨2, by decide +kernel⟩
theorem d8_init_35 : jd cX8_init 35 (.putfield 25) 3 38 := by decide +kernel
theorem d8_init_38 : decode cX8_init 38 = .ok (.return_, 1) := by decide +kernel
def fX8_init : Option (Unit) :=
some ()
set_option maxHeartbeats 4000000 in
set_option maxRecDepth 100000 in
theorem kX8_init (l : Launch) (D : va_G) (tc : jTC) (h_ a_p1 a_p2 : Nat) : ctC l D tc yX8_init (Cond.code yX8_init cX8_init 3 none :: jtb) ({ frames := 1, cells := 3, slots := 168, locals := 20 } : Room) [.ref h_, .ref a_p1, .ref a_p2] [(h_, .inr (8, [.null, .null, .null, .null, .null, .int 0]))] 3 168 (fX8_init) (fun (o : Unit) w => ∃ q1 q2 q3, w = [(h_, .inr (8, [.ref a_p1, .ref a_p2, .ref q1, .ref q2, .ref q3, .int 0])), (q1, .inl (tc.1, 24, .inl (fun _ => 0))), (q2, .inl (tc.1, 72, .inl (fun _ => 0))), (q3, .inl (tc.1, 72, .inl (fun _ => 0)))]) := by
  refine ctC_of (lv0 := [(0, .ref h_), (1, .ref a_p1), (2, .ref a_p2)]) (by decide +kernel) rfl (Nat.le_of_ble_eq_true rfl) rfl (fun X C hin => ?_)
  unfold fX8_init
  refine j_aload C d8_init_0 0 rfl ?_
  refine j_objInit C d8_init_1 ko8_3 lw_obI lw_obC ⟨(Nat.le_of_ble_eq_true rfl), (Nat.le_of_ble_eq_true rfl)⟩ (Nat.le_of_ble_eq_true rfl) ?_
  refine j_aload C d8_init_4 0 rfl ?_
  refine j_const C d8_init_5 ?_
  refine j_newi (N := 24) C (fun q1 => [(h_, .inr (8, [.null, .null, .null, .null, .null, .int 0])), (q1, .inl (tc.1, 24, .inl (fun _ => 0)))]) d8_init_7 lw_aI rfl (Nat.le_of_ble_eq_true rfl) ⟨(Nat.le_of_ble_eq_true rfl), (Nat.le_of_ble_eq_true rfl)⟩ (fun _ => rfl) (fun q1 => ?_)
  refine j_putF C hin d8_init_9 fp8_9 0 rfl rfl rfl (Nat.le_of_ble_eq_true rfl) (ws' := [(h_, .inr (8, [.null, .null, .ref q1, .null, .null, .int 0])), (q1, .inl (tc.1, 24, .inl (fun _ => 0)))]) rfl ?_
  refine j_aload C d8_init_12 0 rfl ?_
  refine j_const C d8_init_13 ?_
  refine j_newi (N := 72) C (fun q2 => [(h_, .inr (8, [.null, .null, .ref q1, .null, .null, .int 0])), (q1, .inl (tc.1, 24, .inl (fun _ => 0))), (q2, .inl (tc.1, 72, .inl (fun _ => 0)))]) d8_init_15 lw_aI rfl (Nat.le_of_ble_eq_true rfl) ⟨(Nat.le_of_ble_eq_true rfl), (Nat.le_of_ble_eq_true rfl)⟩ (fun _ => rfl) (fun q2 => ?_)
  refine j_putF C hin d8_init_17 fp8_15 0 rfl rfl rfl (Nat.le_of_ble_eq_true rfl) (ws' := [(h_, .inr (8, [.null, .null, .ref q1, .ref q2, .null, .int 0])), (q1, .inl (tc.1, 24, .inl (fun _ => 0))), (q2, .inl (tc.1, 72, .inl (fun _ => 0)))]) rfl ?_
  refine j_aload C d8_init_20 0 rfl ?_
  refine j_const C d8_init_21 ?_
  refine j_newi (N := 72) C (fun q3 => [(h_, .inr (8, [.null, .null, .ref q1, .ref q2, .null, .int 0])), (q1, .inl (tc.1, 24, .inl (fun _ => 0))), (q2, .inl (tc.1, 72, .inl (fun _ => 0))), (q3, .inl (tc.1, 72, .inl (fun _ => 0)))]) d8_init_23 lw_aI rfl (Nat.le_of_ble_eq_true rfl) ⟨(Nat.le_of_ble_eq_true rfl), (Nat.le_of_ble_eq_true rfl)⟩ (fun _ => rfl) (fun q3 => ?_)
  refine j_putF C hin d8_init_25 fp8_18 0 rfl rfl rfl (Nat.le_of_ble_eq_true rfl) (ws' := [(h_, .inr (8, [.null, .null, .ref q1, .ref q2, .ref q3, .int 0])), (q1, .inl (tc.1, 24, .inl (fun _ => 0))), (q2, .inl (tc.1, 72, .inl (fun _ => 0))), (q3, .inl (tc.1, 72, .inl (fun _ => 0)))]) rfl ?_
  refine j_aload C d8_init_28 0 rfl ?_
  refine j_aload C d8_init_29 1 rfl ?_
  refine j_putF C hin d8_init_30 fp8_21 0 rfl rfl rfl (Nat.le_of_ble_eq_true rfl) (ws' := [(h_, .inr (8, [.ref a_p1, .null, .ref q1, .ref q2, .ref q3, .int 0])), (q1, .inl (tc.1, 24, .inl (fun _ => 0))), (q2, .inl (tc.1, 72, .inl (fun _ => 0))), (q3, .inl (tc.1, 72, .inl (fun _ => 0)))]) rfl ?_
  refine j_aload C d8_init_33 0 rfl ?_
  refine j_aload C d8_init_34 2 rfl ?_
  refine j_putF C hin d8_init_35 fp8_25 0 rfl rfl rfl (Nat.le_of_ble_eq_true rfl) (ws' := [(h_, .inr (8, [.ref a_p1, .ref a_p2, .ref q1, .ref q2, .ref q3, .int 0])), (q1, .inl (tc.1, 24, .inl (fun _ => 0))), (q2, .inl (tc.1, 72, .inl (fun _ => 0))), (q3, .inl (tc.1, 72, .inl (fun _ => 0)))]) rfl ?_
  exact j_cret C d8_init_38 ⟨_, _, _, rfl⟩

theorem d2_init_0 : jda cX2_init 0 0 1 := Or.inl ⟨0, by decide +kernel⟩
theorem d2_init_1 : jd cX2_init 1 (.invokespecial 3) 3 4 := by decide +kernel
theorem d2_init_4 : jda cX2_init 4 0 5 := Or.inl ⟨0, by decide +kernel⟩
theorem d2_init_5 : jdk cX2_init 5 10 7 := Or.inr (Or.inl ⟨10, by decide +kernel⟩)
theorem d2_init_7 : jd cX2_init 7 (.anewarray 9) 3 10 := by decide +kernel
theorem d2_init_10 : jd cX2_init 10 (.putfield 11) 3 13 := by decide +kernel
theorem d2_init_13 : jdk cX2_init 13 0 14 := Or.inl ⟨0, by decide +kernel⟩
theorem d2_init_14 : jds cX2_init 14 1 15 := Or.inl ⟨1, by decide +kernel⟩
theorem d2_init_15 : jdi cX2_init 15 1 16 := Or.inl ⟨1, by decide +kernel⟩
theorem d2_init_16 : jdk cX2_init 16 10 18 := Or.inr (Or.inl ⟨10, by decide +kernel⟩)
theorem d2_init_18 : jdb cX2_init 18 (.if_icmp .ge 22) 22 40 21 := by decide +kernel
theorem d2_init_21 : jda cX2_init 21 0 22 := Or.inl ⟨0, by decide +kernel⟩
theorem d2_init_22 : jd cX2_init 22 (.getfield 11) 3 25 := by decide +kernel
theorem d2_init_25 : jdi cX2_init 25 1 26 := Or.inl ⟨1, by decide +kernel⟩
theorem d2_init_26 : jd cX2_init 26 (.new 9) 3 29 := by decide +kernel
theorem d2_init_29 : jd cX2_init 29 (.dup) 1 30 := by decide +kernel
theorem d2_init_30 : jd cX2_init 30 (.invokespecial 17) 3 33 := by decide +kernel
theorem d2_init_33 : jd cX2_init 33 (.aastore) 1 34 := by decide +kernel
theorem d2_init_34 : jd cX2_init 34 (.iinc 1 1) 3 37 := by decide +kernel
theorem d2_init_37 : jdb cX2_init 37 (.goto (-22)) (-22) 15 40 := by decide +kernel
theorem d2_init_40 : decode cX2_init 40 = .ok (.return_, 1) := by decide +kernel
def fX2_init : Option (Unit) :=
(fX6_init).bind fun _ =>
(fX6_init).bind fun _ =>
(fX6_init).bind fun _ =>
(fX6_init).bind fun _ =>
(fX6_init).bind fun _ =>
(fX6_init).bind fun _ =>
(fX6_init).bind fun _ =>
(fX6_init).bind fun _ =>
(fX6_init).bind fun _ =>
(fX6_init).bind fun _ =>
some ()
set_option maxHeartbeats 4000000 in
set_option maxRecDepth 100000 in
theorem kX2_init (l : Launch) (D : va_G) (tc : jTC) (h_  : Nat) : ctC l D tc yX2_init (Cond.code yX2_init cX2_init 2 none :: jtb) ({ frames := 2, cells := 21, slots := 270, locals := 40 } : Room) [.ref h_] [(h_, .inr (2, [.null, .int 0, .int 0]))] 21 270 (fX2_init) (fun (o : Unit) w => ∃ q1 q2 q3 q4 q5 q6 q7 q8 q9 q10 q11 q12 q13 q14 q15 q16 q17 q18 q19 q20 q21, w = [(h_, .inr (2, [.ref q1, .int 0, .int 0])), (q1, .inl (tc.2.2, 10, .inr (.inr (.inr (.inr (va_up (va_up (va_up (va_up (va_up (va_up (va_up (va_up (va_up (va_up (fun _ => none) 0 (some q2)) 1 (some q4)) 2 (some q6)) 3 (some q8)) 4 (some q10)) 5 (some q12)) 6 (some q14)) 7 (some q16)) 8 (some q18)) 9 (some q20))))))), (q2, .inr (6, [.ref q3, .int 0])), (q3, .inl (tc.1, 24, .inl (fun _ => 0))), (q4, .inr (6, [.ref q5, .int 0])), (q5, .inl (tc.1, 24, .inl (fun _ => 0))), (q6, .inr (6, [.ref q7, .int 0])), (q7, .inl (tc.1, 24, .inl (fun _ => 0))), (q8, .inr (6, [.ref q9, .int 0])), (q9, .inl (tc.1, 24, .inl (fun _ => 0))), (q10, .inr (6, [.ref q11, .int 0])), (q11, .inl (tc.1, 24, .inl (fun _ => 0))), (q12, .inr (6, [.ref q13, .int 0])), (q13, .inl (tc.1, 24, .inl (fun _ => 0))), (q14, .inr (6, [.ref q15, .int 0])), (q15, .inl (tc.1, 24, .inl (fun _ => 0))), (q16, .inr (6, [.ref q17, .int 0])), (q17, .inl (tc.1, 24, .inl (fun _ => 0))), (q18, .inr (6, [.ref q19, .int 0])), (q19, .inl (tc.1, 24, .inl (fun _ => 0))), (q20, .inr (6, [.ref q21, .int 0])), (q21, .inl (tc.1, 24, .inl (fun _ => 0)))]) := by
  refine ctC_of (lv0 := [(0, .ref h_)]) (by decide +kernel) rfl (Nat.le_of_ble_eq_true rfl) rfl (fun X C hin => ?_)
  unfold fX2_init
  refine j_aload C d2_init_0 0 rfl ?_
  refine j_objInit C d2_init_1 ko2_3 lw_obI lw_obC ⟨(Nat.le_of_ble_eq_true rfl), (Nat.le_of_ble_eq_true rfl)⟩ (Nat.le_of_ble_eq_true rfl) ?_
  refine j_aload C d2_init_4 0 rfl ?_
  refine j_const C d2_init_5 ?_
  refine j_newr (N := 10) C (fun q1 => [(h_, .inr (2, [.null, .int 0, .int 0])), (q1, .inl (tc.2.2, 10, .inr (.inr (.inr (.inr (fun _ => none))))))]) d2_init_7 kl2_9 rfl (Nat.le_of_ble_eq_true rfl) ⟨(Nat.le_of_ble_eq_true rfl), (Nat.le_of_ble_eq_true rfl)⟩ (fun _ => rfl) (fun q1 => ?_)
  refine j_putF C hin d2_init_10 fp2_11 0 rfl rfl rfl (Nat.le_of_ble_eq_true rfl) (ws' := [(h_, .inr (2, [.ref q1, .int 0, .int 0])), (q1, .inl (tc.2.2, 10, .inr (.inr (.inr (.inr (fun _ => none))))))]) rfl ?_
  refine j_const C d2_init_13 ?_
  refine j_istore C d2_init_14 (by decide) (lv' := [(1, .int 0), (0, .ref h_)]) rfl ?_
  refine j_iload C d2_init_15 0 rfl ?_
  refine j_const C d2_init_16 ?_
  refine j_icmp_geF C d2_init_18 (by decide +kernel) ?_
  refine j_aload C d2_init_21 1 rfl ?_
  refine j_get C d2_init_22 fl2_11 0 rfl rfl ?_
  refine j_iload C d2_init_25 0 rfl ?_
  refine j_new C (fun q2 => [(h_, .inr (2, [.ref q1, .int 0, .int 0])), (q1, .inl (tc.2.2, 10, .inr (.inr (.inr (.inr (fun _ => none)))))), (q2, .inr (6, [.null, .int 0]))]) d2_init_26 nw2_9 ⟨(Nat.le_of_ble_eq_true rfl), (Nat.le_of_ble_eq_true rfl)⟩ (fun _ => rfl) (fun q2 => ?_)
  refine j_dup C d2_init_29 rfl ?_
  refine j_callCN (As := []) C d2_init_30 mj2_17 (kX6_init _ _ tc q2) ⟨rfl, rfl, (Nat.le_of_ble_eq_true rfl), (Nat.le_of_ble_eq_true rfl)⟩ rfl [2] rfl rfl rfl (Nat.le_of_ble_eq_true rfl) ⟨(Nat.le_of_ble_eq_true rfl), (Nat.le_of_ble_eq_true rfl)⟩ (fun o w hw => ?_)
  obtain ⟨q3, rfl⟩ := hw
  refine ⟨[(q2, .inr (6, [.ref q3, .int 0]))], [(q3, .inl (tc.1, 24, .inl (fun _ => 0)))], rfl, rfl, rfl, rfl, ?_⟩
  show jo X 2 (3, 36) _ _ [(h_, .inr (2, [.ref q1, .int 0, .int 0])), (q1, .inl (tc.2.2, 10, .inr (.inr (.inr (.inr (fun _ => none)))))), (q2, .inr (6, [.ref q3, .int 0])), (q3, .inl (tc.1, 24, .inl (fun _ => 0)))] 33 [(1, .int 0), (0, .ref h_)] [.ref q2, .int 0, .ref q1]
  refine j_aast (j := 0) C d2_init_33 1 2 rfl rfl rfl (Nat.le_of_ble_eq_true rfl) (Nat.le_of_ble_eq_true rfl) (ws' := [(h_, .inr (2, [.ref q1, .int 0, .int 0])), (q1, .inl (tc.2.2, 10, .inr (.inr (.inr (.inr (va_up (fun _ => none) 0 (some q2))))))), (q2, .inr (6, [.ref q3, .int 0])), (q3, .inl (tc.1, 24, .inl (fun _ => 0)))]) rfl ?_
  refine j_iinc (v := 1) (lv' := [(1, .int 1), (0, .ref h_)]) C d2_init_34 0 rfl (by decide +kernel) (by decide) rfl ?_
  refine j_goto C d2_init_37 ?_
  refine j_iload C d2_init_15 0 rfl ?_
  refine j_const C d2_init_16 ?_
  refine j_icmp_geF C d2_init_18 (by decide +kernel) ?_
  refine j_aload C d2_init_21 1 rfl ?_
  refine j_get C d2_init_22 fl2_11 0 rfl rfl ?_
  refine j_iload C d2_init_25 0 rfl ?_
  refine j_new C (fun q4 => [(h_, .inr (2, [.ref q1, .int 0, .int 0])), (q1, .inl (tc.2.2, 10, .inr (.inr (.inr (.inr (va_up (fun _ => none) 0 (some q2))))))), (q2, .inr (6, [.ref q3, .int 0])), (q3, .inl (tc.1, 24, .inl (fun _ => 0))), (q4, .inr (6, [.null, .int 0]))]) d2_init_26 nw2_9 ⟨(Nat.le_of_ble_eq_true rfl), (Nat.le_of_ble_eq_true rfl)⟩ (fun _ => rfl) (fun q4 => ?_)
  refine j_dup C d2_init_29 rfl ?_
  refine j_callCN (As := []) C d2_init_30 mj2_17 (kX6_init _ _ tc q4) ⟨rfl, rfl, (Nat.le_of_ble_eq_true rfl), (Nat.le_of_ble_eq_true rfl)⟩ rfl [4] rfl rfl rfl (Nat.le_of_ble_eq_true rfl) ⟨(Nat.le_of_ble_eq_true rfl), (Nat.le_of_ble_eq_true rfl)⟩ (fun o w hw => ?_)
  obtain ⟨q5, rfl⟩ := hw
  refine ⟨[(q4, .inr (6, [.ref q5, .int 0]))], [(q5, .inl (tc.1, 24, .inl (fun _ => 0)))], rfl, rfl, rfl, rfl, ?_⟩
  show jo X 2 (5, 62) _ _ [(h_, .inr (2, [.ref q1, .int 0, .int 0])), (q1, .inl (tc.2.2, 10, .inr (.inr (.inr (.inr (va_up (fun _ => none) 0 (some q2))))))), (q2, .inr (6, [.ref q3, .int 0])), (q3, .inl (tc.1, 24, .inl (fun _ => 0))), (q4, .inr (6, [.ref q5, .int 0])), (q5, .inl (tc.1, 24, .inl (fun _ => 0)))] 33 [(1, .int 1), (0, .ref h_)] [.ref q4, .int 1, .ref q1]
  refine j_aast (j := 1) C d2_init_33 1 4 rfl rfl rfl (Nat.le_of_ble_eq_true rfl) (Nat.le_of_ble_eq_true rfl) (ws' := [(h_, .inr (2, [.ref q1, .int 0, .int 0])), (q1, .inl (tc.2.2, 10, .inr (.inr (.inr (.inr (va_up (va_up (fun _ => none) 0 (some q2)) 1 (some q4))))))), (q2, .inr (6, [.ref q3, .int 0])), (q3, .inl (tc.1, 24, .inl (fun _ => 0))), (q4, .inr (6, [.ref q5, .int 0])), (q5, .inl (tc.1, 24, .inl (fun _ => 0)))]) rfl ?_
  refine j_iinc (v := 2) (lv' := [(1, .int 2), (0, .ref h_)]) C d2_init_34 0 rfl (by decide +kernel) (by decide) rfl ?_
  refine j_goto C d2_init_37 ?_
  refine j_iload C d2_init_15 0 rfl ?_
  refine j_const C d2_init_16 ?_
  refine j_icmp_geF C d2_init_18 (by decide +kernel) ?_
  refine j_aload C d2_init_21 1 rfl ?_
  refine j_get C d2_init_22 fl2_11 0 rfl rfl ?_
  refine j_iload C d2_init_25 0 rfl ?_
  refine j_new C (fun q6 => [(h_, .inr (2, [.ref q1, .int 0, .int 0])), (q1, .inl (tc.2.2, 10, .inr (.inr (.inr (.inr (va_up (va_up (fun _ => none) 0 (some q2)) 1 (some q4))))))), (q2, .inr (6, [.ref q3, .int 0])), (q3, .inl (tc.1, 24, .inl (fun _ => 0))), (q4, .inr (6, [.ref q5, .int 0])), (q5, .inl (tc.1, 24, .inl (fun _ => 0))), (q6, .inr (6, [.null, .int 0]))]) d2_init_26 nw2_9 ⟨(Nat.le_of_ble_eq_true rfl), (Nat.le_of_ble_eq_true rfl)⟩ (fun _ => rfl) (fun q6 => ?_)
  refine j_dup C d2_init_29 rfl ?_
  refine j_callCN (As := []) C d2_init_30 mj2_17 (kX6_init _ _ tc q6) ⟨rfl, rfl, (Nat.le_of_ble_eq_true rfl), (Nat.le_of_ble_eq_true rfl)⟩ rfl [6] rfl rfl rfl (Nat.le_of_ble_eq_true rfl) ⟨(Nat.le_of_ble_eq_true rfl), (Nat.le_of_ble_eq_true rfl)⟩ (fun o w hw => ?_)
  obtain ⟨q7, rfl⟩ := hw
  refine ⟨[(q6, .inr (6, [.ref q7, .int 0]))], [(q7, .inl (tc.1, 24, .inl (fun _ => 0)))], rfl, rfl, rfl, rfl, ?_⟩
  show jo X 2 (7, 88) _ _ [(h_, .inr (2, [.ref q1, .int 0, .int 0])), (q1, .inl (tc.2.2, 10, .inr (.inr (.inr (.inr (va_up (va_up (fun _ => none) 0 (some q2)) 1 (some q4))))))), (q2, .inr (6, [.ref q3, .int 0])), (q3, .inl (tc.1, 24, .inl (fun _ => 0))), (q4, .inr (6, [.ref q5, .int 0])), (q5, .inl (tc.1, 24, .inl (fun _ => 0))), (q6, .inr (6, [.ref q7, .int 0])), (q7, .inl (tc.1, 24, .inl (fun _ => 0)))] 33 [(1, .int 2), (0, .ref h_)] [.ref q6, .int 2, .ref q1]
  refine j_aast (j := 2) C d2_init_33 1 6 rfl rfl rfl (Nat.le_of_ble_eq_true rfl) (Nat.le_of_ble_eq_true rfl) (ws' := [(h_, .inr (2, [.ref q1, .int 0, .int 0])), (q1, .inl (tc.2.2, 10, .inr (.inr (.inr (.inr (va_up (va_up (va_up (fun _ => none) 0 (some q2)) 1 (some q4)) 2 (some q6))))))), (q2, .inr (6, [.ref q3, .int 0])), (q3, .inl (tc.1, 24, .inl (fun _ => 0))), (q4, .inr (6, [.ref q5, .int 0])), (q5, .inl (tc.1, 24, .inl (fun _ => 0))), (q6, .inr (6, [.ref q7, .int 0])), (q7, .inl (tc.1, 24, .inl (fun _ => 0)))]) rfl ?_
  refine j_iinc (v := 3) (lv' := [(1, .int 3), (0, .ref h_)]) C d2_init_34 0 rfl (by decide +kernel) (by decide) rfl ?_
  refine j_goto C d2_init_37 ?_
  refine j_iload C d2_init_15 0 rfl ?_
  refine j_const C d2_init_16 ?_
  refine j_icmp_geF C d2_init_18 (by decide +kernel) ?_
  refine j_aload C d2_init_21 1 rfl ?_
  refine j_get C d2_init_22 fl2_11 0 rfl rfl ?_
  refine j_iload C d2_init_25 0 rfl ?_
  refine j_new C (fun q8 => [(h_, .inr (2, [.ref q1, .int 0, .int 0])), (q1, .inl (tc.2.2, 10, .inr (.inr (.inr (.inr (va_up (va_up (va_up (fun _ => none) 0 (some q2)) 1 (some q4)) 2 (some q6))))))), (q2, .inr (6, [.ref q3, .int 0])), (q3, .inl (tc.1, 24, .inl (fun _ => 0))), (q4, .inr (6, [.ref q5, .int 0])), (q5, .inl (tc.1, 24, .inl (fun _ => 0))), (q6, .inr (6, [.ref q7, .int 0])), (q7, .inl (tc.1, 24, .inl (fun _ => 0))), (q8, .inr (6, [.null, .int 0]))]) d2_init_26 nw2_9 ⟨(Nat.le_of_ble_eq_true rfl), (Nat.le_of_ble_eq_true rfl)⟩ (fun _ => rfl) (fun q8 => ?_)
  refine j_dup C d2_init_29 rfl ?_
  refine j_callCN (As := []) C d2_init_30 mj2_17 (kX6_init _ _ tc q8) ⟨rfl, rfl, (Nat.le_of_ble_eq_true rfl), (Nat.le_of_ble_eq_true rfl)⟩ rfl [8] rfl rfl rfl (Nat.le_of_ble_eq_true rfl) ⟨(Nat.le_of_ble_eq_true rfl), (Nat.le_of_ble_eq_true rfl)⟩ (fun o w hw => ?_)
  obtain ⟨q9, rfl⟩ := hw
  refine ⟨[(q8, .inr (6, [.ref q9, .int 0]))], [(q9, .inl (tc.1, 24, .inl (fun _ => 0)))], rfl, rfl, rfl, rfl, ?_⟩
  show jo X 2 (9, 114) _ _ [(h_, .inr (2, [.ref q1, .int 0, .int 0])), (q1, .inl (tc.2.2, 10, .inr (.inr (.inr (.inr (va_up (va_up (va_up (fun _ => none) 0 (some q2)) 1 (some q4)) 2 (some q6))))))), (q2, .inr (6, [.ref q3, .int 0])), (q3, .inl (tc.1, 24, .inl (fun _ => 0))), (q4, .inr (6, [.ref q5, .int 0])), (q5, .inl (tc.1, 24, .inl (fun _ => 0))), (q6, .inr (6, [.ref q7, .int 0])), (q7, .inl (tc.1, 24, .inl (fun _ => 0))), (q8, .inr (6, [.ref q9, .int 0])), (q9, .inl (tc.1, 24, .inl (fun _ => 0)))] 33 [(1, .int 3), (0, .ref h_)] [.ref q8, .int 3, .ref q1]
  refine j_aast (j := 3) C d2_init_33 1 8 rfl rfl rfl (Nat.le_of_ble_eq_true rfl) (Nat.le_of_ble_eq_true rfl) (ws' := [(h_, .inr (2, [.ref q1, .int 0, .int 0])), (q1, .inl (tc.2.2, 10, .inr (.inr (.inr (.inr (va_up (va_up (va_up (va_up (fun _ => none) 0 (some q2)) 1 (some q4)) 2 (some q6)) 3 (some q8))))))), (q2, .inr (6, [.ref q3, .int 0])), (q3, .inl (tc.1, 24, .inl (fun _ => 0))), (q4, .inr (6, [.ref q5, .int 0])), (q5, .inl (tc.1, 24, .inl (fun _ => 0))), (q6, .inr (6, [.ref q7, .int 0])), (q7, .inl (tc.1, 24, .inl (fun _ => 0))), (q8, .inr (6, [.ref q9, .int 0])), (q9, .inl (tc.1, 24, .inl (fun _ => 0)))]) rfl ?_
  refine j_iinc (v := 4) (lv' := [(1, .int 4), (0, .ref h_)]) C d2_init_34 0 rfl (by decide +kernel) (by decide) rfl ?_
  refine j_goto C d2_init_37 ?_
  refine j_iload C d2_init_15 0 rfl ?_
  refine j_const C d2_init_16 ?_
  refine j_icmp_geF C d2_init_18 (by decide +kernel) ?_
  refine j_aload C d2_init_21 1 rfl ?_
  refine j_get C d2_init_22 fl2_11 0 rfl rfl ?_
  refine j_iload C d2_init_25 0 rfl ?_
  refine j_new C (fun q10 => [(h_, .inr (2, [.ref q1, .int 0, .int 0])), (q1, .inl (tc.2.2, 10, .inr (.inr (.inr (.inr (va_up (va_up (va_up (va_up (fun _ => none) 0 (some q2)) 1 (some q4)) 2 (some q6)) 3 (some q8))))))), (q2, .inr (6, [.ref q3, .int 0])), (q3, .inl (tc.1, 24, .inl (fun _ => 0))), (q4, .inr (6, [.ref q5, .int 0])), (q5, .inl (tc.1, 24, .inl (fun _ => 0))), (q6, .inr (6, [.ref q7, .int 0])), (q7, .inl (tc.1, 24, .inl (fun _ => 0))), (q8, .inr (6, [.ref q9, .int 0])), (q9, .inl (tc.1, 24, .inl (fun _ => 0))), (q10, .inr (6, [.null, .int 0]))]) d2_init_26 nw2_9 ⟨(Nat.le_of_ble_eq_true rfl), (Nat.le_of_ble_eq_true rfl)⟩ (fun _ => rfl) (fun q10 => ?_)
  refine j_dup C d2_init_29 rfl ?_
  refine j_callCN (As := []) C d2_init_30 mj2_17 (kX6_init _ _ tc q10) ⟨rfl, rfl, (Nat.le_of_ble_eq_true rfl), (Nat.le_of_ble_eq_true rfl)⟩ rfl [10] rfl rfl rfl (Nat.le_of_ble_eq_true rfl) ⟨(Nat.le_of_ble_eq_true rfl), (Nat.le_of_ble_eq_true rfl)⟩ (fun o w hw => ?_)
  obtain ⟨q11, rfl⟩ := hw
  refine ⟨[(q10, .inr (6, [.ref q11, .int 0]))], [(q11, .inl (tc.1, 24, .inl (fun _ => 0)))], rfl, rfl, rfl, rfl, ?_⟩
  show jo X 2 (11, 140) _ _ [(h_, .inr (2, [.ref q1, .int 0, .int 0])), (q1, .inl (tc.2.2, 10, .inr (.inr (.inr (.inr (va_up (va_up (va_up (va_up (fun _ => none) 0 (some q2)) 1 (some q4)) 2 (some q6)) 3 (some q8))))))), (q2, .inr (6, [.ref q3, .int 0])), (q3, .inl (tc.1, 24, .inl (fun _ => 0))), (q4, .inr (6, [.ref q5, .int 0])), (q5, .inl (tc.1, 24, .inl (fun _ => 0))), (q6, .inr (6, [.ref q7, .int 0])), (q7, .inl (tc.1, 24, .inl (fun _ => 0))), (q8, .inr (6, [.ref q9, .int 0])), (q9, .inl (tc.1, 24, .inl (fun _ => 0))), (q10, .inr (6, [.ref q11, .int 0])), (q11, .inl (tc.1, 24, .inl (fun _ => 0)))] 33 [(1, .int 4), (0, .ref h_)] [.ref q10, .int 4, .ref q1]
  refine j_aast (j := 4) C d2_init_33 1 10 rfl rfl rfl (Nat.le_of_ble_eq_true rfl) (Nat.le_of_ble_eq_true rfl) (ws' := [(h_, .inr (2, [.ref q1, .int 0, .int 0])), (q1, .inl (tc.2.2, 10, .inr (.inr (.inr (.inr (va_up (va_up (va_up (va_up (va_up (fun _ => none) 0 (some q2)) 1 (some q4)) 2 (some q6)) 3 (some q8)) 4 (some q10))))))), (q2, .inr (6, [.ref q3, .int 0])), (q3, .inl (tc.1, 24, .inl (fun _ => 0))), (q4, .inr (6, [.ref q5, .int 0])), (q5, .inl (tc.1, 24, .inl (fun _ => 0))), (q6, .inr (6, [.ref q7, .int 0])), (q7, .inl (tc.1, 24, .inl (fun _ => 0))), (q8, .inr (6, [.ref q9, .int 0])), (q9, .inl (tc.1, 24, .inl (fun _ => 0))), (q10, .inr (6, [.ref q11, .int 0])), (q11, .inl (tc.1, 24, .inl (fun _ => 0)))]) rfl ?_
  refine j_iinc (v := 5) (lv' := [(1, .int 5), (0, .ref h_)]) C d2_init_34 0 rfl (by decide +kernel) (by decide) rfl ?_
  refine j_goto C d2_init_37 ?_
  refine j_iload C d2_init_15 0 rfl ?_
  refine j_const C d2_init_16 ?_
  refine j_icmp_geF C d2_init_18 (by decide +kernel) ?_
  refine j_aload C d2_init_21 1 rfl ?_
  refine j_get C d2_init_22 fl2_11 0 rfl rfl ?_
  refine j_iload C d2_init_25 0 rfl ?_
  refine j_new C (fun q12 => [(h_, .inr (2, [.ref q1, .int 0, .int 0])), (q1, .inl (tc.2.2, 10, .inr (.inr (.inr (.inr (va_up (va_up (va_up (va_up (va_up (fun _ => none) 0 (some q2)) 1 (some q4)) 2 (some q6)) 3 (some q8)) 4 (some q10))))))), (q2, .inr (6, [.ref q3, .int 0])), (q3, .inl (tc.1, 24, .inl (fun _ => 0))), (q4, .inr (6, [.ref q5, .int 0])), (q5, .inl (tc.1, 24, .inl (fun _ => 0))), (q6, .inr (6, [.ref q7, .int 0])), (q7, .inl (tc.1, 24, .inl (fun _ => 0))), (q8, .inr (6, [.ref q9, .int 0])), (q9, .inl (tc.1, 24, .inl (fun _ => 0))), (q10, .inr (6, [.ref q11, .int 0])), (q11, .inl (tc.1, 24, .inl (fun _ => 0))), (q12, .inr (6, [.null, .int 0]))]) d2_init_26 nw2_9 ⟨(Nat.le_of_ble_eq_true rfl), (Nat.le_of_ble_eq_true rfl)⟩ (fun _ => rfl) (fun q12 => ?_)
  refine j_dup C d2_init_29 rfl ?_
  refine j_callCN (As := []) C d2_init_30 mj2_17 (kX6_init _ _ tc q12) ⟨rfl, rfl, (Nat.le_of_ble_eq_true rfl), (Nat.le_of_ble_eq_true rfl)⟩ rfl [12] rfl rfl rfl (Nat.le_of_ble_eq_true rfl) ⟨(Nat.le_of_ble_eq_true rfl), (Nat.le_of_ble_eq_true rfl)⟩ (fun o w hw => ?_)
  obtain ⟨q13, rfl⟩ := hw
  refine ⟨[(q12, .inr (6, [.ref q13, .int 0]))], [(q13, .inl (tc.1, 24, .inl (fun _ => 0)))], rfl, rfl, rfl, rfl, ?_⟩
  show jo X 2 (13, 166) _ _ [(h_, .inr (2, [.ref q1, .int 0, .int 0])), (q1, .inl (tc.2.2, 10, .inr (.inr (.inr (.inr (va_up (va_up (va_up (va_up (va_up (fun _ => none) 0 (some q2)) 1 (some q4)) 2 (some q6)) 3 (some q8)) 4 (some q10))))))), (q2, .inr (6, [.ref q3, .int 0])), (q3, .inl (tc.1, 24, .inl (fun _ => 0))), (q4, .inr (6, [.ref q5, .int 0])), (q5, .inl (tc.1, 24, .inl (fun _ => 0))), (q6, .inr (6, [.ref q7, .int 0])), (q7, .inl (tc.1, 24, .inl (fun _ => 0))), (q8, .inr (6, [.ref q9, .int 0])), (q9, .inl (tc.1, 24, .inl (fun _ => 0))), (q10, .inr (6, [.ref q11, .int 0])), (q11, .inl (tc.1, 24, .inl (fun _ => 0))), (q12, .inr (6, [.ref q13, .int 0])), (q13, .inl (tc.1, 24, .inl (fun _ => 0)))] 33 [(1, .int 5), (0, .ref h_)] [.ref q12, .int 5, .ref q1]
  refine j_aast (j := 5) C d2_init_33 1 12 rfl rfl rfl (Nat.le_of_ble_eq_true rfl) (Nat.le_of_ble_eq_true rfl) (ws' := [(h_, .inr (2, [.ref q1, .int 0, .int 0])), (q1, .inl (tc.2.2, 10, .inr (.inr (.inr (.inr (va_up (va_up (va_up (va_up (va_up (va_up (fun _ => none) 0 (some q2)) 1 (some q4)) 2 (some q6)) 3 (some q8)) 4 (some q10)) 5 (some q12))))))), (q2, .inr (6, [.ref q3, .int 0])), (q3, .inl (tc.1, 24, .inl (fun _ => 0))), (q4, .inr (6, [.ref q5, .int 0])), (q5, .inl (tc.1, 24, .inl (fun _ => 0))), (q6, .inr (6, [.ref q7, .int 0])), (q7, .inl (tc.1, 24, .inl (fun _ => 0))), (q8, .inr (6, [.ref q9, .int 0])), (q9, .inl (tc.1, 24, .inl (fun _ => 0))), (q10, .inr (6, [.ref q11, .int 0])), (q11, .inl (tc.1, 24, .inl (fun _ => 0))), (q12, .inr (6, [.ref q13, .int 0])), (q13, .inl (tc.1, 24, .inl (fun _ => 0)))]) rfl ?_
  refine j_iinc (v := 6) (lv' := [(1, .int 6), (0, .ref h_)]) C d2_init_34 0 rfl (by decide +kernel) (by decide) rfl ?_
  refine j_goto C d2_init_37 ?_
  refine j_iload C d2_init_15 0 rfl ?_
  refine j_const C d2_init_16 ?_
  refine j_icmp_geF C d2_init_18 (by decide +kernel) ?_
  refine j_aload C d2_init_21 1 rfl ?_
  refine j_get C d2_init_22 fl2_11 0 rfl rfl ?_
  refine j_iload C d2_init_25 0 rfl ?_
  refine j_new C (fun q14 => [(h_, .inr (2, [.ref q1, .int 0, .int 0])), (q1, .inl (tc.2.2, 10, .inr (.inr (.inr (.inr (va_up (va_up (va_up (va_up (va_up (va_up (fun _ => none) 0 (some q2)) 1 (some q4)) 2 (some q6)) 3 (some q8)) 4 (some q10)) 5 (some q12))))))), (q2, .inr (6, [.ref q3, .int 0])), (q3, .inl (tc.1, 24, .inl (fun _ => 0))), (q4, .inr (6, [.ref q5, .int 0])), (q5, .inl (tc.1, 24, .inl (fun _ => 0))), (q6, .inr (6, [.ref q7, .int 0])), (q7, .inl (tc.1, 24, .inl (fun _ => 0))), (q8, .inr (6, [.ref q9, .int 0])), (q9, .inl (tc.1, 24, .inl (fun _ => 0))), (q10, .inr (6, [.ref q11, .int 0])), (q11, .inl (tc.1, 24, .inl (fun _ => 0))), (q12, .inr (6, [.ref q13, .int 0])), (q13, .inl (tc.1, 24, .inl (fun _ => 0))), (q14, .inr (6, [.null, .int 0]))]) d2_init_26 nw2_9 ⟨(Nat.le_of_ble_eq_true rfl), (Nat.le_of_ble_eq_true rfl)⟩ (fun _ => rfl) (fun q14 => ?_)
  refine j_dup C d2_init_29 rfl ?_
  refine j_callCN (As := []) C d2_init_30 mj2_17 (kX6_init _ _ tc q14) ⟨rfl, rfl, (Nat.le_of_ble_eq_true rfl), (Nat.le_of_ble_eq_true rfl)⟩ rfl [14] rfl rfl rfl (Nat.le_of_ble_eq_true rfl) ⟨(Nat.le_of_ble_eq_true rfl), (Nat.le_of_ble_eq_true rfl)⟩ (fun o w hw => ?_)
  obtain ⟨q15, rfl⟩ := hw
  refine ⟨[(q14, .inr (6, [.ref q15, .int 0]))], [(q15, .inl (tc.1, 24, .inl (fun _ => 0)))], rfl, rfl, rfl, rfl, ?_⟩
  show jo X 2 (15, 192) _ _ [(h_, .inr (2, [.ref q1, .int 0, .int 0])), (q1, .inl (tc.2.2, 10, .inr (.inr (.inr (.inr (va_up (va_up (va_up (va_up (va_up (va_up (fun _ => none) 0 (some q2)) 1 (some q4)) 2 (some q6)) 3 (some q8)) 4 (some q10)) 5 (some q12))))))), (q2, .inr (6, [.ref q3, .int 0])), (q3, .inl (tc.1, 24, .inl (fun _ => 0))), (q4, .inr (6, [.ref q5, .int 0])), (q5, .inl (tc.1, 24, .inl (fun _ => 0))), (q6, .inr (6, [.ref q7, .int 0])), (q7, .inl (tc.1, 24, .inl (fun _ => 0))), (q8, .inr (6, [.ref q9, .int 0])), (q9, .inl (tc.1, 24, .inl (fun _ => 0))), (q10, .inr (6, [.ref q11, .int 0])), (q11, .inl (tc.1, 24, .inl (fun _ => 0))), (q12, .inr (6, [.ref q13, .int 0])), (q13, .inl (tc.1, 24, .inl (fun _ => 0))), (q14, .inr (6, [.ref q15, .int 0])), (q15, .inl (tc.1, 24, .inl (fun _ => 0)))] 33 [(1, .int 6), (0, .ref h_)] [.ref q14, .int 6, .ref q1]
  refine j_aast (j := 6) C d2_init_33 1 14 rfl rfl rfl (Nat.le_of_ble_eq_true rfl) (Nat.le_of_ble_eq_true rfl) (ws' := [(h_, .inr (2, [.ref q1, .int 0, .int 0])), (q1, .inl (tc.2.2, 10, .inr (.inr (.inr (.inr (va_up (va_up (va_up (va_up (va_up (va_up (va_up (fun _ => none) 0 (some q2)) 1 (some q4)) 2 (some q6)) 3 (some q8)) 4 (some q10)) 5 (some q12)) 6 (some q14))))))), (q2, .inr (6, [.ref q3, .int 0])), (q3, .inl (tc.1, 24, .inl (fun _ => 0))), (q4, .inr (6, [.ref q5, .int 0])), (q5, .inl (tc.1, 24, .inl (fun _ => 0))), (q6, .inr (6, [.ref q7, .int 0])), (q7, .inl (tc.1, 24, .inl (fun _ => 0))), (q8, .inr (6, [.ref q9, .int 0])), (q9, .inl (tc.1, 24, .inl (fun _ => 0))), (q10, .inr (6, [.ref q11, .int 0])), (q11, .inl (tc.1, 24, .inl (fun _ => 0))), (q12, .inr (6, [.ref q13, .int 0])), (q13, .inl (tc.1, 24, .inl (fun _ => 0))), (q14, .inr (6, [.ref q15, .int 0])), (q15, .inl (tc.1, 24, .inl (fun _ => 0)))]) rfl ?_
  refine j_iinc (v := 7) (lv' := [(1, .int 7), (0, .ref h_)]) C d2_init_34 0 rfl (by decide +kernel) (by decide) rfl ?_
  refine j_goto C d2_init_37 ?_
  refine j_iload C d2_init_15 0 rfl ?_
  refine j_const C d2_init_16 ?_
  refine j_icmp_geF C d2_init_18 (by decide +kernel) ?_
  refine j_aload C d2_init_21 1 rfl ?_
  refine j_get C d2_init_22 fl2_11 0 rfl rfl ?_
  refine j_iload C d2_init_25 0 rfl ?_
  refine j_new C (fun q16 => [(h_, .inr (2, [.ref q1, .int 0, .int 0])), (q1, .inl (tc.2.2, 10, .inr (.inr (.inr (.inr (va_up (va_up (va_up (va_up (va_up (va_up (va_up (fun _ => none) 0 (some q2)) 1 (some q4)) 2 (some q6)) 3 (some q8)) 4 (some q10)) 5 (some q12)) 6 (some q14))))))), (q2, .inr (6, [.ref q3, .int 0])), (q3, .inl (tc.1, 24, .inl (fun _ => 0))), (q4, .inr (6, [.ref q5, .int 0])), (q5, .inl (tc.1, 24, .inl (fun _ => 0))), (q6, .inr (6, [.ref q7, .int 0])), (q7, .inl (tc.1, 24, .inl (fun _ => 0))), (q8, .inr (6, [.ref q9, .int 0])), (q9, .inl (tc.1, 24, .inl (fun _ => 0))), (q10, .inr (6, [.ref q11, .int 0])), (q11, .inl (tc.1, 24, .inl (fun _ => 0))), (q12, .inr (6, [.ref q13, .int 0])), (q13, .inl (tc.1, 24, .inl (fun _ => 0))), (q14, .inr (6, [.ref q15, .int 0])), (q15, .inl (tc.1, 24, .inl (fun _ => 0))), (q16, .inr (6, [.null, .int 0]))]) d2_init_26 nw2_9 ⟨(Nat.le_of_ble_eq_true rfl), (Nat.le_of_ble_eq_true rfl)⟩ (fun _ => rfl) (fun q16 => ?_)
  refine j_dup C d2_init_29 rfl ?_
  refine j_callCN (As := []) C d2_init_30 mj2_17 (kX6_init _ _ tc q16) ⟨rfl, rfl, (Nat.le_of_ble_eq_true rfl), (Nat.le_of_ble_eq_true rfl)⟩ rfl [16] rfl rfl rfl (Nat.le_of_ble_eq_true rfl) ⟨(Nat.le_of_ble_eq_true rfl), (Nat.le_of_ble_eq_true rfl)⟩ (fun o w hw => ?_)
  obtain ⟨q17, rfl⟩ := hw
  refine ⟨[(q16, .inr (6, [.ref q17, .int 0]))], [(q17, .inl (tc.1, 24, .inl (fun _ => 0)))], rfl, rfl, rfl, rfl, ?_⟩
  show jo X 2 (17, 218) _ _ [(h_, .inr (2, [.ref q1, .int 0, .int 0])), (q1, .inl (tc.2.2, 10, .inr (.inr (.inr (.inr (va_up (va_up (va_up (va_up (va_up (va_up (va_up (fun _ => none) 0 (some q2)) 1 (some q4)) 2 (some q6)) 3 (some q8)) 4 (some q10)) 5 (some q12)) 6 (some q14))))))), (q2, .inr (6, [.ref q3, .int 0])), (q3, .inl (tc.1, 24, .inl (fun _ => 0))), (q4, .inr (6, [.ref q5, .int 0])), (q5, .inl (tc.1, 24, .inl (fun _ => 0))), (q6, .inr (6, [.ref q7, .int 0])), (q7, .inl (tc.1, 24, .inl (fun _ => 0))), (q8, .inr (6, [.ref q9, .int 0])), (q9, .inl (tc.1, 24, .inl (fun _ => 0))), (q10, .inr (6, [.ref q11, .int 0])), (q11, .inl (tc.1, 24, .inl (fun _ => 0))), (q12, .inr (6, [.ref q13, .int 0])), (q13, .inl (tc.1, 24, .inl (fun _ => 0))), (q14, .inr (6, [.ref q15, .int 0])), (q15, .inl (tc.1, 24, .inl (fun _ => 0))), (q16, .inr (6, [.ref q17, .int 0])), (q17, .inl (tc.1, 24, .inl (fun _ => 0)))] 33 [(1, .int 7), (0, .ref h_)] [.ref q16, .int 7, .ref q1]
  refine j_aast (j := 7) C d2_init_33 1 16 rfl rfl rfl (Nat.le_of_ble_eq_true rfl) (Nat.le_of_ble_eq_true rfl) (ws' := [(h_, .inr (2, [.ref q1, .int 0, .int 0])), (q1, .inl (tc.2.2, 10, .inr (.inr (.inr (.inr (va_up (va_up (va_up (va_up (va_up (va_up (va_up (va_up (fun _ => none) 0 (some q2)) 1 (some q4)) 2 (some q6)) 3 (some q8)) 4 (some q10)) 5 (some q12)) 6 (some q14)) 7 (some q16))))))), (q2, .inr (6, [.ref q3, .int 0])), (q3, .inl (tc.1, 24, .inl (fun _ => 0))), (q4, .inr (6, [.ref q5, .int 0])), (q5, .inl (tc.1, 24, .inl (fun _ => 0))), (q6, .inr (6, [.ref q7, .int 0])), (q7, .inl (tc.1, 24, .inl (fun _ => 0))), (q8, .inr (6, [.ref q9, .int 0])), (q9, .inl (tc.1, 24, .inl (fun _ => 0))), (q10, .inr (6, [.ref q11, .int 0])), (q11, .inl (tc.1, 24, .inl (fun _ => 0))), (q12, .inr (6, [.ref q13, .int 0])), (q13, .inl (tc.1, 24, .inl (fun _ => 0))), (q14, .inr (6, [.ref q15, .int 0])), (q15, .inl (tc.1, 24, .inl (fun _ => 0))), (q16, .inr (6, [.ref q17, .int 0])), (q17, .inl (tc.1, 24, .inl (fun _ => 0)))]) rfl ?_
  refine j_iinc (v := 8) (lv' := [(1, .int 8), (0, .ref h_)]) C d2_init_34 0 rfl (by decide +kernel) (by decide) rfl ?_
  refine j_goto C d2_init_37 ?_
  refine j_iload C d2_init_15 0 rfl ?_
  refine j_const C d2_init_16 ?_
  refine j_icmp_geF C d2_init_18 (by decide +kernel) ?_
  refine j_aload C d2_init_21 1 rfl ?_
  refine j_get C d2_init_22 fl2_11 0 rfl rfl ?_
  refine j_iload C d2_init_25 0 rfl ?_
  refine j_new C (fun q18 => [(h_, .inr (2, [.ref q1, .int 0, .int 0])), (q1, .inl (tc.2.2, 10, .inr (.inr (.inr (.inr (va_up (va_up (va_up (va_up (va_up (va_up (va_up (va_up (fun _ => none) 0 (some q2)) 1 (some q4)) 2 (some q6)) 3 (some q8)) 4 (some q10)) 5 (some q12)) 6 (some q14)) 7 (some q16))))))), (q2, .inr (6, [.ref q3, .int 0])), (q3, .inl (tc.1, 24, .inl (fun _ => 0))), (q4, .inr (6, [.ref q5, .int 0])), (q5, .inl (tc.1, 24, .inl (fun _ => 0))), (q6, .inr (6, [.ref q7, .int 0])), (q7, .inl (tc.1, 24, .inl (fun _ => 0))), (q8, .inr (6, [.ref q9, .int 0])), (q9, .inl (tc.1, 24, .inl (fun _ => 0))), (q10, .inr (6, [.ref q11, .int 0])), (q11, .inl (tc.1, 24, .inl (fun _ => 0))), (q12, .inr (6, [.ref q13, .int 0])), (q13, .inl (tc.1, 24, .inl (fun _ => 0))), (q14, .inr (6, [.ref q15, .int 0])), (q15, .inl (tc.1, 24, .inl (fun _ => 0))), (q16, .inr (6, [.ref q17, .int 0])), (q17, .inl (tc.1, 24, .inl (fun _ => 0))), (q18, .inr (6, [.null, .int 0]))]) d2_init_26 nw2_9 ⟨(Nat.le_of_ble_eq_true rfl), (Nat.le_of_ble_eq_true rfl)⟩ (fun _ => rfl) (fun q18 => ?_)
  refine j_dup C d2_init_29 rfl ?_
  refine j_callCN (As := []) C d2_init_30 mj2_17 (kX6_init _ _ tc q18) ⟨rfl, rfl, (Nat.le_of_ble_eq_true rfl), (Nat.le_of_ble_eq_true rfl)⟩ rfl [18] rfl rfl rfl (Nat.le_of_ble_eq_true rfl) ⟨(Nat.le_of_ble_eq_true rfl), (Nat.le_of_ble_eq_true rfl)⟩ (fun o w hw => ?_)
  obtain ⟨q19, rfl⟩ := hw
  refine ⟨[(q18, .inr (6, [.ref q19, .int 0]))], [(q19, .inl (tc.1, 24, .inl (fun _ => 0)))], rfl, rfl, rfl, rfl, ?_⟩
  show jo X 2 (19, 244) _ _ [(h_, .inr (2, [.ref q1, .int 0, .int 0])), (q1, .inl (tc.2.2, 10, .inr (.inr (.inr (.inr (va_up (va_up (va_up (va_up (va_up (va_up (va_up (va_up (fun _ => none) 0 (some q2)) 1 (some q4)) 2 (some q6)) 3 (some q8)) 4 (some q10)) 5 (some q12)) 6 (some q14)) 7 (some q16))))))), (q2, .inr (6, [.ref q3, .int 0])), (q3, .inl (tc.1, 24, .inl (fun _ => 0))), (q4, .inr (6, [.ref q5, .int 0])), (q5, .inl (tc.1, 24, .inl (fun _ => 0))), (q6, .inr (6, [.ref q7, .int 0])), (q7, .inl (tc.1, 24, .inl (fun _ => 0))), (q8, .inr (6, [.ref q9, .int 0])), (q9, .inl (tc.1, 24, .inl (fun _ => 0))), (q10, .inr (6, [.ref q11, .int 0])), (q11, .inl (tc.1, 24, .inl (fun _ => 0))), (q12, .inr (6, [.ref q13, .int 0])), (q13, .inl (tc.1, 24, .inl (fun _ => 0))), (q14, .inr (6, [.ref q15, .int 0])), (q15, .inl (tc.1, 24, .inl (fun _ => 0))), (q16, .inr (6, [.ref q17, .int 0])), (q17, .inl (tc.1, 24, .inl (fun _ => 0))), (q18, .inr (6, [.ref q19, .int 0])), (q19, .inl (tc.1, 24, .inl (fun _ => 0)))] 33 [(1, .int 8), (0, .ref h_)] [.ref q18, .int 8, .ref q1]
  refine j_aast (j := 8) C d2_init_33 1 18 rfl rfl rfl (Nat.le_of_ble_eq_true rfl) (Nat.le_of_ble_eq_true rfl) (ws' := [(h_, .inr (2, [.ref q1, .int 0, .int 0])), (q1, .inl (tc.2.2, 10, .inr (.inr (.inr (.inr (va_up (va_up (va_up (va_up (va_up (va_up (va_up (va_up (va_up (fun _ => none) 0 (some q2)) 1 (some q4)) 2 (some q6)) 3 (some q8)) 4 (some q10)) 5 (some q12)) 6 (some q14)) 7 (some q16)) 8 (some q18))))))), (q2, .inr (6, [.ref q3, .int 0])), (q3, .inl (tc.1, 24, .inl (fun _ => 0))), (q4, .inr (6, [.ref q5, .int 0])), (q5, .inl (tc.1, 24, .inl (fun _ => 0))), (q6, .inr (6, [.ref q7, .int 0])), (q7, .inl (tc.1, 24, .inl (fun _ => 0))), (q8, .inr (6, [.ref q9, .int 0])), (q9, .inl (tc.1, 24, .inl (fun _ => 0))), (q10, .inr (6, [.ref q11, .int 0])), (q11, .inl (tc.1, 24, .inl (fun _ => 0))), (q12, .inr (6, [.ref q13, .int 0])), (q13, .inl (tc.1, 24, .inl (fun _ => 0))), (q14, .inr (6, [.ref q15, .int 0])), (q15, .inl (tc.1, 24, .inl (fun _ => 0))), (q16, .inr (6, [.ref q17, .int 0])), (q17, .inl (tc.1, 24, .inl (fun _ => 0))), (q18, .inr (6, [.ref q19, .int 0])), (q19, .inl (tc.1, 24, .inl (fun _ => 0)))]) rfl ?_
  refine j_iinc (v := 9) (lv' := [(1, .int 9), (0, .ref h_)]) C d2_init_34 0 rfl (by decide +kernel) (by decide) rfl ?_
  refine j_goto C d2_init_37 ?_
  refine j_iload C d2_init_15 0 rfl ?_
  refine j_const C d2_init_16 ?_
  refine j_icmp_geF C d2_init_18 (by decide +kernel) ?_
  refine j_aload C d2_init_21 1 rfl ?_
  refine j_get C d2_init_22 fl2_11 0 rfl rfl ?_
  refine j_iload C d2_init_25 0 rfl ?_
  refine j_new C (fun q20 => [(h_, .inr (2, [.ref q1, .int 0, .int 0])), (q1, .inl (tc.2.2, 10, .inr (.inr (.inr (.inr (va_up (va_up (va_up (va_up (va_up (va_up (va_up (va_up (va_up (fun _ => none) 0 (some q2)) 1 (some q4)) 2 (some q6)) 3 (some q8)) 4 (some q10)) 5 (some q12)) 6 (some q14)) 7 (some q16)) 8 (some q18))))))), (q2, .inr (6, [.ref q3, .int 0])), (q3, .inl (tc.1, 24, .inl (fun _ => 0))), (q4, .inr (6, [.ref q5, .int 0])), (q5, .inl (tc.1, 24, .inl (fun _ => 0))), (q6, .inr (6, [.ref q7, .int 0])), (q7, .inl (tc.1, 24, .inl (fun _ => 0))), (q8, .inr (6, [.ref q9, .int 0])), (q9, .inl (tc.1, 24, .inl (fun _ => 0))), (q10, .inr (6, [.ref q11, .int 0])), (q11, .inl (tc.1, 24, .inl (fun _ => 0))), (q12, .inr (6, [.ref q13, .int 0])), (q13, .inl (tc.1, 24, .inl (fun _ => 0))), (q14, .inr (6, [.ref q15, .int 0])), (q15, .inl (tc.1, 24, .inl (fun _ => 0))), (q16, .inr (6, [.ref q17, .int 0])), (q17, .inl (tc.1, 24, .inl (fun _ => 0))), (q18, .inr (6, [.ref q19, .int 0])), (q19, .inl (tc.1, 24, .inl (fun _ => 0))), (q20, .inr (6, [.null, .int 0]))]) d2_init_26 nw2_9 ⟨(Nat.le_of_ble_eq_true rfl), (Nat.le_of_ble_eq_true rfl)⟩ (fun _ => rfl) (fun q20 => ?_)
  refine j_dup C d2_init_29 rfl ?_
  refine j_callCN (As := []) C d2_init_30 mj2_17 (kX6_init _ _ tc q20) ⟨rfl, rfl, (Nat.le_of_ble_eq_true rfl), (Nat.le_of_ble_eq_true rfl)⟩ rfl [20] rfl rfl rfl (Nat.le_of_ble_eq_true rfl) ⟨(Nat.le_of_ble_eq_true rfl), (Nat.le_of_ble_eq_true rfl)⟩ (fun o w hw => ?_)
  obtain ⟨q21, rfl⟩ := hw
  refine ⟨[(q20, .inr (6, [.ref q21, .int 0]))], [(q21, .inl (tc.1, 24, .inl (fun _ => 0)))], rfl, rfl, rfl, rfl, ?_⟩
  show jo X 2 (21, 270) _ _ [(h_, .inr (2, [.ref q1, .int 0, .int 0])), (q1, .inl (tc.2.2, 10, .inr (.inr (.inr (.inr (va_up (va_up (va_up (va_up (va_up (va_up (va_up (va_up (va_up (fun _ => none) 0 (some q2)) 1 (some q4)) 2 (some q6)) 3 (some q8)) 4 (some q10)) 5 (some q12)) 6 (some q14)) 7 (some q16)) 8 (some q18))))))), (q2, .inr (6, [.ref q3, .int 0])), (q3, .inl (tc.1, 24, .inl (fun _ => 0))), (q4, .inr (6, [.ref q5, .int 0])), (q5, .inl (tc.1, 24, .inl (fun _ => 0))), (q6, .inr (6, [.ref q7, .int 0])), (q7, .inl (tc.1, 24, .inl (fun _ => 0))), (q8, .inr (6, [.ref q9, .int 0])), (q9, .inl (tc.1, 24, .inl (fun _ => 0))), (q10, .inr (6, [.ref q11, .int 0])), (q11, .inl (tc.1, 24, .inl (fun _ => 0))), (q12, .inr (6, [.ref q13, .int 0])), (q13, .inl (tc.1, 24, .inl (fun _ => 0))), (q14, .inr (6, [.ref q15, .int 0])), (q15, .inl (tc.1, 24, .inl (fun _ => 0))), (q16, .inr (6, [.ref q17, .int 0])), (q17, .inl (tc.1, 24, .inl (fun _ => 0))), (q18, .inr (6, [.ref q19, .int 0])), (q19, .inl (tc.1, 24, .inl (fun _ => 0))), (q20, .inr (6, [.ref q21, .int 0])), (q21, .inl (tc.1, 24, .inl (fun _ => 0)))] 33 [(1, .int 9), (0, .ref h_)] [.ref q20, .int 9, .ref q1]
  refine j_aast (j := 9) C d2_init_33 1 20 rfl rfl rfl (Nat.le_of_ble_eq_true rfl) (Nat.le_of_ble_eq_true rfl) (ws' := [(h_, .inr (2, [.ref q1, .int 0, .int 0])), (q1, .inl (tc.2.2, 10, .inr (.inr (.inr (.inr (va_up (va_up (va_up (va_up (va_up (va_up (va_up (va_up (va_up (va_up (fun _ => none) 0 (some q2)) 1 (some q4)) 2 (some q6)) 3 (some q8)) 4 (some q10)) 5 (some q12)) 6 (some q14)) 7 (some q16)) 8 (some q18)) 9 (some q20))))))), (q2, .inr (6, [.ref q3, .int 0])), (q3, .inl (tc.1, 24, .inl (fun _ => 0))), (q4, .inr (6, [.ref q5, .int 0])), (q5, .inl (tc.1, 24, .inl (fun _ => 0))), (q6, .inr (6, [.ref q7, .int 0])), (q7, .inl (tc.1, 24, .inl (fun _ => 0))), (q8, .inr (6, [.ref q9, .int 0])), (q9, .inl (tc.1, 24, .inl (fun _ => 0))), (q10, .inr (6, [.ref q11, .int 0])), (q11, .inl (tc.1, 24, .inl (fun _ => 0))), (q12, .inr (6, [.ref q13, .int 0])), (q13, .inl (tc.1, 24, .inl (fun _ => 0))), (q14, .inr (6, [.ref q15, .int 0])), (q15, .inl (tc.1, 24, .inl (fun _ => 0))), (q16, .inr (6, [.ref q17, .int 0])), (q17, .inl (tc.1, 24, .inl (fun _ => 0))), (q18, .inr (6, [.ref q19, .int 0])), (q19, .inl (tc.1, 24, .inl (fun _ => 0))), (q20, .inr (6, [.ref q21, .int 0])), (q21, .inl (tc.1, 24, .inl (fun _ => 0)))]) rfl ?_
  refine j_iinc (v := 10) (lv' := [(1, .int 10), (0, .ref h_)]) C d2_init_34 0 rfl (by decide +kernel) (by decide) rfl ?_
  refine j_goto C d2_init_37 ?_
  refine j_iload C d2_init_15 0 rfl ?_
  refine j_const C d2_init_16 ?_
  refine j_icmp_geT C d2_init_18 (by decide +kernel) ?_
  exact j_cret C d2_init_40 ⟨_, _, _, _, _, _, _, _, _, _, _, _, _, _, _, _, _, _, _, _, _, rfl⟩

theorem d4_init_0 : jda cX4_init 0 0 1 := Or.inl ⟨0, by decide +kernel⟩
theorem d4_init_1 : jd cX4_init 1 (.invokespecial 3) 3 4 := by decide +kernel
theorem d4_init_4 : jda cX4_init 4 0 5 := Or.inl ⟨0, by decide +kernel⟩
theorem d4_init_5 : jdk cX4_init 5 8 7 := Or.inr (Or.inl ⟨8, by decide +kernel⟩)
theorem d4_init_7 : jd cX4_init 7 (.newarray .int) 2 9 := by decide +kernel
theorem d4_init_9 : jd cX4_init 9 (.putfield 9) 3 12 := by decide +kernel
theorem d4_init_12 : jda cX4_init 12 0 13 := Or.inl ⟨0, by decide +kernel⟩
theorem d4_init_13 : jdk cX4_init 13 300 16 := Or.inr (Or.inr ⟨300, by decide +kernel⟩)
theorem d4_init_16 : jd cX4_init 16 (.newarray .int) 2 18 := by decide +kernel
theorem d4_init_18 : jd cX4_init 18 (.putfield 15) 3 21 := by decide +kernel
theorem d4_init_21 : jda cX4_init 21 0 22 := Or.inl ⟨0, by decide +kernel⟩
theorem d4_init_22 : jd cX4_init 22 (.new 18) 3 25 := by decide +kernel
theorem d4_init_25 : jd cX4_init 25 (.dup) 1 26 := by decide +kernel
theorem d4_init_26 : jd cX4_init 26 (.invokespecial 20) 3 29 := by decide +kernel
theorem d4_init_29 : jd cX4_init 29 (.putfield 21) 3 32 := by decide +kernel
theorem d4_init_32 : jda cX4_init 32 0 33 := Or.inl ⟨0, by decide +kernel⟩
theorem d4_init_33 : jdk cX4_init 33 900 36 := Or.inr (Or.inr ⟨900, by decide +kernel⟩)
theorem d4_init_36 : jd cX4_init 36 (.newarray .int) 2 38 := by decide +kernel
theorem d4_init_38 : jd cX4_init 38 (.putfield 25) 3 41 := by decide +kernel
theorem d4_init_41 : jda cX4_init 41 0 42 := Or.inl ⟨0, by decide +kernel⟩
theorem d4_init_42 : jdk cX4_init 42 65 44 := Or.inr (Or.inl ⟨65, by decide +kernel⟩)
theorem d4_init_44 : jd cX4_init 44 (.newarray .int) 2 46 := by decide +kernel
theorem d4_init_46 : jd cX4_init 46 (.putfield 28) 3 49 := by decide +kernel
theorem d4_init_49 : jda cX4_init 49 0 50 := Or.inl ⟨0, by decide +kernel⟩
theorem d4_init_50 : jdk cX4_init 50 65 52 := Or.inr (Or.inl ⟨65, by decide +kernel⟩)
theorem d4_init_52 : jd cX4_init 52 (.newarray .int) 2 54 := by decide +kernel
theorem d4_init_54 : jd cX4_init 54 (.putfield 31) 3 57 := by decide +kernel
theorem d4_init_57 : jda cX4_init 57 0 58 := Or.inl ⟨0, by decide +kernel⟩
theorem d4_init_58 : jda cX4_init 58 1 59 := Or.inl ⟨1, by decide +kernel⟩
theorem d4_init_59 : jd cX4_init 59 (.putfield 34) 3 62 := by decide +kernel
theorem d4_init_62 : jda cX4_init 62 0 63 := Or.inl ⟨0, by decide +kernel⟩
theorem d4_init_63 : jda cX4_init 63 2 64 := Or.inl ⟨2, by decide +kernel⟩
theorem d4_init_64 : jd cX4_init 64 (.putfield 38) 3 67 := by decide +kernel
theorem d4_init_67 : jda cX4_init 67 0 68 := Or.inl ⟨0, by decide +kernel⟩
theorem d4_init_68 : jda cX4_init 68 3 69 := Or.inl ⟨3, by decide +kernel⟩
theorem d4_init_69 : jd cX4_init 69 (.putfield 42) 3 72 := by decide +kernel
theorem d4_init_72 : jda cX4_init 72 0 73 := Or.inl ⟨0, by decide +kernel⟩
theorem d4_init_73 : jda cX4_init 73 4 75 := Or.inr (by decide +kernel)
theorem d4_init_75 : jd cX4_init 75 (.putfield 46) 3 78 := by decide +kernel
theorem d4_init_78 : decode cX4_init 78 = .ok (.return_, 1) := by decide +kernel
def fX4_init : Option (Unit) :=
(fX9_init).bind fun _ =>
some ()
set_option maxHeartbeats 4000000 in
set_option maxRecDepth 100000 in
theorem kX4_init (l : Launch) (D : va_G) (tc : jTC) (h_ a_p1 a_p2 a_p3 a_p4 : Nat) : ctC l D tc yX4_init (Cond.code yX4_init cX4_init 5 none :: jtb) ({ frames := 2, cells := 9, slots := 2242, locals := 40 } : Room) [.ref h_, .ref a_p1, .ref a_p2, .ref a_p3, .ref a_p4] [(h_, .inr (4, [.null, .null, .null, .null, .null, .null, .int 0, .null, .null, .int 0, .null, .null, .int 0, .int 0, .int 0]))] 9 2242 (fX4_init) (fun (o : Unit) w => ∃ q1 q2 q3 q4 q5 q6 q7 q8 q9, w = [(h_, .inr (4, [.ref a_p1, .ref a_p2, .ref a_p3, .ref a_p4, .ref q1, .ref q2, .int 0, .ref q3, .ref q7, .int 0, .ref q8, .ref q9, .int 0, .int 0, .int 0])), (q1, .inl (tc.1, 8, .inl (fun _ => 0))), (q2, .inl (tc.1, 300, .inl (fun _ => 0))), (q3, .inr (9, [.ref q4, .ref q5, .ref q6, .int 0])), (q4, .inl (tc.1, 300, .inl (fun _ => 0))), (q5, .inl (tc.1, 300, .inl (fun _ => 0))), (q6, .inl (tc.1, 300, .inl (fun _ => 0))), (q7, .inl (tc.1, 900, .inl (fun _ => 0))), (q8, .inl (tc.1, 65, .inl (fun _ => 0))), (q9, .inl (tc.1, 65, .inl (fun _ => 0)))]) := by
  refine ctC_of (lv0 := [(0, .ref h_), (1, .ref a_p1), (2, .ref a_p2), (3, .ref a_p3), (4, .ref a_p4)]) (by decide +kernel) rfl (Nat.le_of_ble_eq_true rfl) rfl (fun X C hin => ?_)
  unfold fX4_init
  refine j_aload C d4_init_0 0 rfl ?_
  refine j_objInit C d4_init_1 ko4_3 lw_obI lw_obC ⟨(Nat.le_of_ble_eq_true rfl), (Nat.le_of_ble_eq_true rfl)⟩ (Nat.le_of_ble_eq_true rfl) ?_
  refine j_aload C d4_init_4 0 rfl ?_
  refine j_const C d4_init_5 ?_
  refine j_newi (N := 8) C (fun q1 => [(h_, .inr (4, [.null, .null, .null, .null, .null, .null, .int 0, .null, .null, .int 0, .null, .null, .int 0, .int 0, .int 0])), (q1, .inl (tc.1, 8, .inl (fun _ => 0)))]) d4_init_7 lw_aI rfl (Nat.le_of_ble_eq_true rfl) ⟨(Nat.le_of_ble_eq_true rfl), (Nat.le_of_ble_eq_true rfl)⟩ (fun _ => rfl) (fun q1 => ?_)
  refine j_putF C hin d4_init_9 fp4_9 0 rfl rfl rfl (Nat.le_of_ble_eq_true rfl) (ws' := [(h_, .inr (4, [.null, .null, .null, .null, .ref q1, .null, .int 0, .null, .null, .int 0, .null, .null, .int 0, .int 0, .int 0])), (q1, .inl (tc.1, 8, .inl (fun _ => 0)))]) rfl ?_
  refine j_aload C d4_init_12 0 rfl ?_
  refine j_const C d4_init_13 ?_
  refine j_newi (N := 300) C (fun q2 => [(h_, .inr (4, [.null, .null, .null, .null, .ref q1, .null, .int 0, .null, .null, .int 0, .null, .null, .int 0, .int 0, .int 0])), (q1, .inl (tc.1, 8, .inl (fun _ => 0))), (q2, .inl (tc.1, 300, .inl (fun _ => 0)))]) d4_init_16 lw_aI rfl (Nat.le_of_ble_eq_true rfl) ⟨(Nat.le_of_ble_eq_true rfl), (Nat.le_of_ble_eq_true rfl)⟩ (fun _ => rfl) (fun q2 => ?_)
  refine j_putF C hin d4_init_18 fp4_15 0 rfl rfl rfl (Nat.le_of_ble_eq_true rfl) (ws' := [(h_, .inr (4, [.null, .null, .null, .null, .ref q1, .ref q2, .int 0, .null, .null, .int 0, .null, .null, .int 0, .int 0, .int 0])), (q1, .inl (tc.1, 8, .inl (fun _ => 0))), (q2, .inl (tc.1, 300, .inl (fun _ => 0)))]) rfl ?_
  refine j_aload C d4_init_21 0 rfl ?_
  refine j_new C (fun q3 => [(h_, .inr (4, [.null, .null, .null, .null, .ref q1, .ref q2, .int 0, .null, .null, .int 0, .null, .null, .int 0, .int 0, .int 0])), (q1, .inl (tc.1, 8, .inl (fun _ => 0))), (q2, .inl (tc.1, 300, .inl (fun _ => 0))), (q3, .inr (9, [.null, .null, .null, .int 0]))]) d4_init_22 nw4_18 ⟨(Nat.le_of_ble_eq_true rfl), (Nat.le_of_ble_eq_true rfl)⟩ (fun _ => rfl) (fun q3 => ?_)
  refine j_dup C d4_init_25 rfl ?_
  refine j_callCN (As := []) C d4_init_26 mj4_20 (kX9_init _ _ tc q3) ⟨rfl, rfl, (Nat.le_of_ble_eq_true rfl), (Nat.le_of_ble_eq_true rfl)⟩ rfl [3] rfl rfl rfl (Nat.le_of_ble_eq_true rfl) ⟨(Nat.le_of_ble_eq_true rfl), (Nat.le_of_ble_eq_true rfl)⟩ (fun o w hw => ?_)
  obtain ⟨q4, q5, q6, rfl⟩ := hw
  refine ⟨[(q3, .inr (9, [.ref q4, .ref q5, .ref q6, .int 0]))], [(q4, .inl (tc.1, 300, .inl (fun _ => 0))), (q5, .inl (tc.1, 300, .inl (fun _ => 0))), (q6, .inl (tc.1, 300, .inl (fun _ => 0)))], rfl, rfl, rfl, rfl, ?_⟩
  show jo X 5 (6, 1212) _ _ [(h_, .inr (4, [.null, .null, .null, .null, .ref q1, .ref q2, .int 0, .null, .null, .int 0, .null, .null, .int 0, .int 0, .int 0])), (q1, .inl (tc.1, 8, .inl (fun _ => 0))), (q2, .inl (tc.1, 300, .inl (fun _ => 0))), (q3, .inr (9, [.ref q4, .ref q5, .ref q6, .int 0])), (q4, .inl (tc.1, 300, .inl (fun _ => 0))), (q5, .inl (tc.1, 300, .inl (fun _ => 0))), (q6, .inl (tc.1, 300, .inl (fun _ => 0)))] 29 [(0, .ref h_), (1, .ref a_p1), (2, .ref a_p2), (3, .ref a_p3), (4, .ref a_p4)] [.ref q3, .ref h_]
  refine j_putF C hin d4_init_29 fp4_21 0 rfl rfl rfl (Nat.le_of_ble_eq_true rfl) (ws' := [(h_, .inr (4, [.null, .null, .null, .null, .ref q1, .ref q2, .int 0, .ref q3, .null, .int 0, .null, .null, .int 0, .int 0, .int 0])), (q1, .inl (tc.1, 8, .inl (fun _ => 0))), (q2, .inl (tc.1, 300, .inl (fun _ => 0))), (q3, .inr (9, [.ref q4, .ref q5, .ref q6, .int 0])), (q4, .inl (tc.1, 300, .inl (fun _ => 0))), (q5, .inl (tc.1, 300, .inl (fun _ => 0))), (q6, .inl (tc.1, 300, .inl (fun _ => 0)))]) rfl ?_
  refine j_aload C d4_init_32 0 rfl ?_
  refine j_const C d4_init_33 ?_
  refine j_newi (N := 900) C (fun q7 => [(h_, .inr (4, [.null, .null, .null, .null, .ref q1, .ref q2, .int 0, .ref q3, .null, .int 0, .null, .null, .int 0, .int 0, .int 0])), (q1, .inl (tc.1, 8, .inl (fun _ => 0))), (q2, .inl (tc.1, 300, .inl (fun _ => 0))), (q3, .inr (9, [.ref q4, .ref q5, .ref q6, .int 0])), (q4, .inl (tc.1, 300, .inl (fun _ => 0))), (q5, .inl (tc.1, 300, .inl (fun _ => 0))), (q6, .inl (tc.1, 300, .inl (fun _ => 0))), (q7, .inl (tc.1, 900, .inl (fun _ => 0)))]) d4_init_36 lw_aI rfl (Nat.le_of_ble_eq_true rfl) ⟨(Nat.le_of_ble_eq_true rfl), (Nat.le_of_ble_eq_true rfl)⟩ (fun _ => rfl) (fun q7 => ?_)
  refine j_putF C hin d4_init_38 fp4_25 0 rfl rfl rfl (Nat.le_of_ble_eq_true rfl) (ws' := [(h_, .inr (4, [.null, .null, .null, .null, .ref q1, .ref q2, .int 0, .ref q3, .ref q7, .int 0, .null, .null, .int 0, .int 0, .int 0])), (q1, .inl (tc.1, 8, .inl (fun _ => 0))), (q2, .inl (tc.1, 300, .inl (fun _ => 0))), (q3, .inr (9, [.ref q4, .ref q5, .ref q6, .int 0])), (q4, .inl (tc.1, 300, .inl (fun _ => 0))), (q5, .inl (tc.1, 300, .inl (fun _ => 0))), (q6, .inl (tc.1, 300, .inl (fun _ => 0))), (q7, .inl (tc.1, 900, .inl (fun _ => 0)))]) rfl ?_
  refine j_aload C d4_init_41 0 rfl ?_
  refine j_const C d4_init_42 ?_
  refine j_newi (N := 65) C (fun q8 => [(h_, .inr (4, [.null, .null, .null, .null, .ref q1, .ref q2, .int 0, .ref q3, .ref q7, .int 0, .null, .null, .int 0, .int 0, .int 0])), (q1, .inl (tc.1, 8, .inl (fun _ => 0))), (q2, .inl (tc.1, 300, .inl (fun _ => 0))), (q3, .inr (9, [.ref q4, .ref q5, .ref q6, .int 0])), (q4, .inl (tc.1, 300, .inl (fun _ => 0))), (q5, .inl (tc.1, 300, .inl (fun _ => 0))), (q6, .inl (tc.1, 300, .inl (fun _ => 0))), (q7, .inl (tc.1, 900, .inl (fun _ => 0))), (q8, .inl (tc.1, 65, .inl (fun _ => 0)))]) d4_init_44 lw_aI rfl (Nat.le_of_ble_eq_true rfl) ⟨(Nat.le_of_ble_eq_true rfl), (Nat.le_of_ble_eq_true rfl)⟩ (fun _ => rfl) (fun q8 => ?_)
  refine j_putF C hin d4_init_46 fp4_28 0 rfl rfl rfl (Nat.le_of_ble_eq_true rfl) (ws' := [(h_, .inr (4, [.null, .null, .null, .null, .ref q1, .ref q2, .int 0, .ref q3, .ref q7, .int 0, .ref q8, .null, .int 0, .int 0, .int 0])), (q1, .inl (tc.1, 8, .inl (fun _ => 0))), (q2, .inl (tc.1, 300, .inl (fun _ => 0))), (q3, .inr (9, [.ref q4, .ref q5, .ref q6, .int 0])), (q4, .inl (tc.1, 300, .inl (fun _ => 0))), (q5, .inl (tc.1, 300, .inl (fun _ => 0))), (q6, .inl (tc.1, 300, .inl (fun _ => 0))), (q7, .inl (tc.1, 900, .inl (fun _ => 0))), (q8, .inl (tc.1, 65, .inl (fun _ => 0)))]) rfl ?_
  refine j_aload C d4_init_49 0 rfl ?_
  refine j_const C d4_init_50 ?_
  refine j_newi (N := 65) C (fun q9 => [(h_, .inr (4, [.null, .null, .null, .null, .ref q1, .ref q2, .int 0, .ref q3, .ref q7, .int 0, .ref q8, .null, .int 0, .int 0, .int 0])), (q1, .inl (tc.1, 8, .inl (fun _ => 0))), (q2, .inl (tc.1, 300, .inl (fun _ => 0))), (q3, .inr (9, [.ref q4, .ref q5, .ref q6, .int 0])), (q4, .inl (tc.1, 300, .inl (fun _ => 0))), (q5, .inl (tc.1, 300, .inl (fun _ => 0))), (q6, .inl (tc.1, 300, .inl (fun _ => 0))), (q7, .inl (tc.1, 900, .inl (fun _ => 0))), (q8, .inl (tc.1, 65, .inl (fun _ => 0))), (q9, .inl (tc.1, 65, .inl (fun _ => 0)))]) d4_init_52 lw_aI rfl (Nat.le_of_ble_eq_true rfl) ⟨(Nat.le_of_ble_eq_true rfl), (Nat.le_of_ble_eq_true rfl)⟩ (fun _ => rfl) (fun q9 => ?_)
  refine j_putF C hin d4_init_54 fp4_31 0 rfl rfl rfl (Nat.le_of_ble_eq_true rfl) (ws' := [(h_, .inr (4, [.null, .null, .null, .null, .ref q1, .ref q2, .int 0, .ref q3, .ref q7, .int 0, .ref q8, .ref q9, .int 0, .int 0, .int 0])), (q1, .inl (tc.1, 8, .inl (fun _ => 0))), (q2, .inl (tc.1, 300, .inl (fun _ => 0))), (q3, .inr (9, [.ref q4, .ref q5, .ref q6, .int 0])), (q4, .inl (tc.1, 300, .inl (fun _ => 0))), (q5, .inl (tc.1, 300, .inl (fun _ => 0))), (q6, .inl (tc.1, 300, .inl (fun _ => 0))), (q7, .inl (tc.1, 900, .inl (fun _ => 0))), (q8, .inl (tc.1, 65, .inl (fun _ => 0))), (q9, .inl (tc.1, 65, .inl (fun _ => 0)))]) rfl ?_
  refine j_aload C d4_init_57 0 rfl ?_
  refine j_aload C d4_init_58 1 rfl ?_
  refine j_putF C hin d4_init_59 fp4_34 0 rfl rfl rfl (Nat.le_of_ble_eq_true rfl) (ws' := [(h_, .inr (4, [.ref a_p1, .null, .null, .null, .ref q1, .ref q2, .int 0, .ref q3, .ref q7, .int 0, .ref q8, .ref q9, .int 0, .int 0, .int 0])), (q1, .inl (tc.1, 8, .inl (fun _ => 0))), (q2, .inl (tc.1, 300, .inl (fun _ => 0))), (q3, .inr (9, [.ref q4, .ref q5, .ref q6, .int 0])), (q4, .inl (tc.1, 300, .inl (fun _ => 0))), (q5, .inl (tc.1, 300, .inl (fun _ => 0))), (q6, .inl (tc.1, 300, .inl (fun _ => 0))), (q7, .inl (tc.1, 900, .inl (fun _ => 0))), (q8, .inl (tc.1, 65, .inl (fun _ => 0))), (q9, .inl (tc.1, 65, .inl (fun _ => 0)))]) rfl ?_
  refine j_aload C d4_init_62 0 rfl ?_
  refine j_aload C d4_init_63 2 rfl ?_
  refine j_putF C hin d4_init_64 fp4_38 0 rfl rfl rfl (Nat.le_of_ble_eq_true rfl) (ws' := [(h_, .inr (4, [.ref a_p1, .ref a_p2, .null, .null, .ref q1, .ref q2, .int 0, .ref q3, .ref q7, .int 0, .ref q8, .ref q9, .int 0, .int 0, .int 0])), (q1, .inl (tc.1, 8, .inl (fun _ => 0))), (q2, .inl (tc.1, 300, .inl (fun _ => 0))), (q3, .inr (9, [.ref q4, .ref q5, .ref q6, .int 0])), (q4, .inl (tc.1, 300, .inl (fun _ => 0))), (q5, .inl (tc.1, 300, .inl (fun _ => 0))), (q6, .inl (tc.1, 300, .inl (fun _ => 0))), (q7, .inl (tc.1, 900, .inl (fun _ => 0))), (q8, .inl (tc.1, 65, .inl (fun _ => 0))), (q9, .inl (tc.1, 65, .inl (fun _ => 0)))]) rfl ?_
  refine j_aload C d4_init_67 0 rfl ?_
  refine j_aload C d4_init_68 3 rfl ?_
  refine j_putF C hin d4_init_69 fp4_42 0 rfl rfl rfl (Nat.le_of_ble_eq_true rfl) (ws' := [(h_, .inr (4, [.ref a_p1, .ref a_p2, .ref a_p3, .null, .ref q1, .ref q2, .int 0, .ref q3, .ref q7, .int 0, .ref q8, .ref q9, .int 0, .int 0, .int 0])), (q1, .inl (tc.1, 8, .inl (fun _ => 0))), (q2, .inl (tc.1, 300, .inl (fun _ => 0))), (q3, .inr (9, [.ref q4, .ref q5, .ref q6, .int 0])), (q4, .inl (tc.1, 300, .inl (fun _ => 0))), (q5, .inl (tc.1, 300, .inl (fun _ => 0))), (q6, .inl (tc.1, 300, .inl (fun _ => 0))), (q7, .inl (tc.1, 900, .inl (fun _ => 0))), (q8, .inl (tc.1, 65, .inl (fun _ => 0))), (q9, .inl (tc.1, 65, .inl (fun _ => 0)))]) rfl ?_
  refine j_aload C d4_init_72 0 rfl ?_
  refine j_aload C d4_init_73 4 rfl ?_
  refine j_putF C hin d4_init_75 fp4_46 0 rfl rfl rfl (Nat.le_of_ble_eq_true rfl) (ws' := [(h_, .inr (4, [.ref a_p1, .ref a_p2, .ref a_p3, .ref a_p4, .ref q1, .ref q2, .int 0, .ref q3, .ref q7, .int 0, .ref q8, .ref q9, .int 0, .int 0, .int 0])), (q1, .inl (tc.1, 8, .inl (fun _ => 0))), (q2, .inl (tc.1, 300, .inl (fun _ => 0))), (q3, .inr (9, [.ref q4, .ref q5, .ref q6, .int 0])), (q4, .inl (tc.1, 300, .inl (fun _ => 0))), (q5, .inl (tc.1, 300, .inl (fun _ => 0))), (q6, .inl (tc.1, 300, .inl (fun _ => 0))), (q7, .inl (tc.1, 900, .inl (fun _ => 0))), (q8, .inl (tc.1, 65, .inl (fun _ => 0))), (q9, .inl (tc.1, 65, .inl (fun _ => 0)))]) rfl ?_
  exact j_cret C d4_init_78 ⟨_, _, _, _, _, _, _, _, _, rfl⟩

theorem d10_init_0 : jda cX10_init 0 0 1 := Or.inl ⟨0, by decide +kernel⟩
theorem d10_init_1 : jd cX10_init 1 (.invokespecial 5) 3 4 := by decide +kernel
theorem d10_init_4 : jda cX10_init 4 0 5 := Or.inl ⟨0, by decide +kernel⟩
theorem d10_init_5 : jdi cX10_init 5 1 6 := Or.inl ⟨1, by decide +kernel⟩
theorem d10_init_6 : jdk cX10_init 6 0 7 := Or.inl ⟨0, by decide +kernel⟩
theorem d10_init_7 : jd cX10_init 7 (.invokestatic 11) 3 10 := by decide +kernel
theorem d10_init_10 : jd cX10_init 10 (.newarray .int) 2 12 := by decide +kernel
theorem d10_init_12 : jd cX10_init 12 (.putfield 17) 3 15 := by decide +kernel
theorem d10_init_15 : jda cX10_init 15 0 16 := Or.inl ⟨0, by decide +kernel⟩
theorem d10_init_16 : jdi cX10_init 16 1 17 := Or.inl ⟨1, by decide +kernel⟩
theorem d10_init_17 : jdk cX10_init 17 0 18 := Or.inl ⟨0, by decide +kernel⟩
theorem d10_init_18 : jd cX10_init 18 (.invokestatic 11) 3 21 := by decide +kernel
theorem d10_init_21 : jd cX10_init 21 (.newarray .long) 2 23 := by decide +kernel
theorem d10_init_23 : jd cX10_init 23 (.putfield 21) 3 26 := by decide +kernel
theorem d10_init_26 : jda cX10_init 26 0 27 := Or.inl ⟨0, by decide +kernel⟩
theorem d10_init_27 : jdi cX10_init 27 1 28 := Or.inl ⟨1, by decide +kernel⟩
theorem d10_init_28 : jdk cX10_init 28 0 29 := Or.inl ⟨0, by decide +kernel⟩
theorem d10_init_29 : jd cX10_init 29 (.invokestatic 11) 3 32 := by decide +kernel
theorem d10_init_32 : jd cX10_init 32 (.newarray .long) 2 34 := by decide +kernel
theorem d10_init_34 : jd cX10_init 34 (.putfield 25) 3 37 := by decide +kernel
theorem d10_init_37 : jdk cX10_init 37 0 38 := Or.inl ⟨0, by decide +kernel⟩
theorem d10_init_38 : jds cX10_init 38 2 39 := Or.inl ⟨2, by decide +kernel⟩
theorem d10_init_39 : jdi cX10_init 39 2 40 := Or.inl ⟨2, by decide +kernel⟩
theorem d10_init_40 : jdi cX10_init 40 1 41 := Or.inl ⟨1, by decide +kernel⟩
theorem d10_init_41 : jdb cX10_init 41 (.if_icmp .ge 17) 17 58 44 := by decide +kernel
theorem d10_init_44 : jda cX10_init 44 0 45 := Or.inl ⟨0, by decide +kernel⟩
theorem d10_init_45 : jd cX10_init 45 (.getfield 17) 3 48 := by decide +kernel
theorem d10_init_48 : jdi cX10_init 48 2 49 := Or.inl ⟨2, by decide +kernel⟩
theorem d10_init_49 : jd cX10_init 49 (.ldc 28) 2 51 := by decide +kernel
theorem d10_init_51 : jd cX10_init 51 (.iastore) 1 52 := by decide +kernel
theorem d10_init_52 : jd cX10_init 52 (.iinc 2 1) 3 55 := by decide +kernel
theorem d10_init_55 : jdb cX10_init 55 (.goto (-16)) (-16) 39 58 := by decide +kernel
theorem d10_init_58 : decode cX10_init 58 = .ok (.return_, 1) := by decide +kernel
def bX10_init362 (rc : Int32 → (Nat → Int32) → Option (Nat → Int32)) (v : Int32) (f : Nat → Int32) : Option (Nat → Int32) :=
if 362 ≤ v then (some f) else ((as_ f 362 v 41984).bind fun f2 =>
lt_ (v + 1) fun x => rc x f2)
def fX10_init362 (N : Nat) : Option ((Nat → Int32)) :=
itr2 bX10_init362 N 0 (fun _ => 0)
set_option maxHeartbeats 4000000 in
set_option maxRecDepth 100000 in
theorem kX10_init362 (l : Launch) (D : va_G) (tc : jTC) (N : Nat) (h_  : Nat) : ctC l D tc yX10_init (Cond.code yX10_init cX10_init 3 none :: jtb) ({ frames := 1, cells := 3, slots := 1086, locals := 21 } : Room) [.ref h_, .int 362] [(h_, .inr (10, [.null, .null, .null]))] 3 1086 (fX10_init362 N) (fun (f : (Nat → Int32)) w => ∃ q1 q2 q3, w = [(h_, .inr (10, [.ref q1, .ref q2, .ref q3])), (q1, .inl (tc.1, 362, .inl f)), (q2, .inl (tc.2.1, 362, .inr (.inl (fun _ => 0)))), (q3, .inl (tc.2.1, 362, .inr (.inl (fun _ => 0))))]) := by
  refine ctC_of (lv0 := [(0, .ref h_), (1, .int 362)]) (by decide +kernel) rfl (Nat.le_of_ble_eq_true rfl) rfl (fun X C hin => ?_)
  unfold fX10_init362
  refine j_aload C d10_init_0 0 rfl ?_
  refine j_objInit C d10_init_1 ko10_5 lw_obI lw_obC ⟨(Nat.le_of_ble_eq_true rfl), (Nat.le_of_ble_eq_true rfl)⟩ (Nat.le_of_ble_eq_true rfl) ?_
  refine j_aload C d10_init_4 0 rfl ?_
  refine j_iload C d10_init_5 1 rfl ?_
  refine j_const C d10_init_6 ?_
  refine j_mmaxK (v := 362) C d10_init_7 kj10_11 ⟨(Nat.le_of_ble_eq_true rfl), (Nat.le_of_ble_eq_true rfl)⟩ ⟨(Nat.le_of_ble_eq_true rfl), (Nat.le_of_ble_eq_true rfl)⟩ (Nat.le_of_ble_eq_true rfl) (by decide +kernel) ?_
  refine j_newi (N := 362) C (fun q1 => [(h_, .inr (10, [.null, .null, .null])), (q1, .inl (tc.1, 362, .inl (fun _ => 0)))]) d10_init_10 lw_aI rfl (Nat.le_of_ble_eq_true rfl) ⟨(Nat.le_of_ble_eq_true rfl), (Nat.le_of_ble_eq_true rfl)⟩ (fun _ => rfl) (fun q1 => ?_)
  refine j_putF C hin d10_init_12 fp10_17 0 rfl rfl rfl (Nat.le_of_ble_eq_true rfl) (ws' := [(h_, .inr (10, [.ref q1, .null, .null])), (q1, .inl (tc.1, 362, .inl (fun _ => 0)))]) rfl ?_
  refine j_aload C d10_init_15 0 rfl ?_
  refine j_iload C d10_init_16 1 rfl ?_
  refine j_const C d10_init_17 ?_
  refine j_mmaxK (v := 362) C d10_init_18 kj10_11 ⟨(Nat.le_of_ble_eq_true rfl), (Nat.le_of_ble_eq_true rfl)⟩ ⟨(Nat.le_of_ble_eq_true rfl), (Nat.le_of_ble_eq_true rfl)⟩ (Nat.le_of_ble_eq_true rfl) (by decide +kernel) ?_
  refine j_newl (N := 362) C (fun q2 => [(h_, .inr (10, [.ref q1, .null, .null])), (q1, .inl (tc.1, 362, .inl (fun _ => 0))), (q2, .inl (tc.2.1, 362, .inr (.inl (fun _ => 0))))]) d10_init_21 lw_aL rfl (Nat.le_of_ble_eq_true rfl) ⟨(Nat.le_of_ble_eq_true rfl), (Nat.le_of_ble_eq_true rfl)⟩ (fun _ => rfl) (fun q2 => ?_)
  refine j_putF C hin d10_init_23 fp10_21 0 rfl rfl rfl (Nat.le_of_ble_eq_true rfl) (ws' := [(h_, .inr (10, [.ref q1, .ref q2, .null])), (q1, .inl (tc.1, 362, .inl (fun _ => 0))), (q2, .inl (tc.2.1, 362, .inr (.inl (fun _ => 0))))]) rfl ?_
  refine j_aload C d10_init_26 0 rfl ?_
  refine j_iload C d10_init_27 1 rfl ?_
  refine j_const C d10_init_28 ?_
  refine j_mmaxK (v := 362) C d10_init_29 kj10_11 ⟨(Nat.le_of_ble_eq_true rfl), (Nat.le_of_ble_eq_true rfl)⟩ ⟨(Nat.le_of_ble_eq_true rfl), (Nat.le_of_ble_eq_true rfl)⟩ (Nat.le_of_ble_eq_true rfl) (by decide +kernel) ?_
  refine j_newl (N := 362) C (fun q3 => [(h_, .inr (10, [.ref q1, .ref q2, .null])), (q1, .inl (tc.1, 362, .inl (fun _ => 0))), (q2, .inl (tc.2.1, 362, .inr (.inl (fun _ => 0)))), (q3, .inl (tc.2.1, 362, .inr (.inl (fun _ => 0))))]) d10_init_32 lw_aL rfl (Nat.le_of_ble_eq_true rfl) ⟨(Nat.le_of_ble_eq_true rfl), (Nat.le_of_ble_eq_true rfl)⟩ (fun _ => rfl) (fun q3 => ?_)
  refine j_putF C hin d10_init_34 fp10_25 0 rfl rfl rfl (Nat.le_of_ble_eq_true rfl) (ws' := [(h_, .inr (10, [.ref q1, .ref q2, .ref q3])), (q1, .inl (tc.1, 362, .inl (fun _ => 0))), (q2, .inl (tc.2.1, 362, .inr (.inl (fun _ => 0)))), (q3, .inl (tc.2.1, 362, .inr (.inl (fun _ => 0))))]) rfl ?_
  refine j_const C d10_init_37 ?_
  refine j_istore C d10_init_38 (by decide) (lv' := [(2, .int 0), (0, .ref h_), (1, .int 362)]) rfl ?_
  refine j_sub [1, 2, 0] rfl ?_
  refine j_loop2 (fun v f => [(h_, .inr (10, [.ref q1, .ref q2, .ref q3])), (q1, .inl (tc.1, 362, .inl f)), (q2, .inl (tc.2.1, 362, .inr (.inl (fun _ => 0)))), (q3, .inl (tc.2.1, 362, .inr (.inl (fun _ => 0))))]) (fun v f => [(0, .ref h_), (1, .int 362), (2, .int v)]) (fun rc hrc v f => ?_) N _ _
  unfold bX10_init362
  refine j_iload C d10_init_39 2 rfl ?_
  refine j_iload C d10_init_40 1 rfl ?_
  refine j_icmp_ge C d10_init_41 ?_ ?_
  · exact j_cret C d10_init_58 ⟨_, _, _, rfl⟩
  · refine j_aload C d10_init_44 0 rfl ?_
    refine j_get C d10_init_45 fl10_17 0 rfl rfl ?_
    refine j_iload C d10_init_48 2 rfl ?_
    refine j_ldc C d10_init_49 kc10_28 ?_
    refine j_iast C (fun f => [(h_, .inr (10, [.ref q1, .ref q2, .ref q3])), (q1, .inl (tc.1, 362, .inl f)), (q2, .inl (tc.2.1, 362, .inr (.inl (fun _ => 0)))), (q3, .inl (tc.2.1, 362, .inr (.inl (fun _ => 0))))]) d10_init_51 1 rfl (fun _ => rfl) (fun f2 => ?_)
    refine j_iincN C (fun x => [(2, .int x), (0, .ref h_), (1, .int 362)]) d10_init_52 2 rfl (by decide +kernel) (by decide) (fun _ => rfl) (fun x => ?_)
    refine j_goto C d10_init_55 ?_
    exact j_sub [1, 2, 0] rfl (hrc _ _)

theorem d0_init_0 : jda cX0_init 0 0 1 := Or.inl ⟨0, by decide +kernel⟩
theorem d0_init_1 : jd cX0_init 1 (.invokespecial 5) 3 4 := by decide +kernel
theorem d0_init_4 : jda cX0_init 4 0 5 := Or.inl ⟨0, by decide +kernel⟩
theorem d0_init_5 : jd cX0_init 5 (.new 11) 3 8 := by decide +kernel
theorem d0_init_8 : jd cX0_init 8 (.dup) 1 9 := by decide +kernel
theorem d0_init_9 : jdk cX0_init 9 362 12 := Or.inr (Or.inr ⟨362, by decide +kernel⟩)
theorem d0_init_12 : jd cX0_init 12 (.invokespecial 13) 3 15 := by decide +kernel
theorem d0_init_15 : jd cX0_init 15 (.putfield 16) 3 18 := by decide +kernel
theorem d0_init_18 : jda cX0_init 18 0 19 := Or.inl ⟨0, by decide +kernel⟩
theorem d0_init_19 : jdk cX0_init 19 (-1) 20 := Or.inl ⟨(-1), by decide +kernel⟩
theorem d0_init_20 : jd cX0_init 20 (.putfield 20) 3 23 := by decide +kernel
theorem d0_init_23 : jda cX0_init 23 0 24 := Or.inl ⟨0, by decide +kernel⟩
theorem d0_init_24 : jda cX0_init 24 1 25 := Or.inl ⟨1, by decide +kernel⟩
theorem d0_init_25 : jd cX0_init 25 (.putfield 24) 3 28 := by decide +kernel
theorem d0_init_28 : decode cX0_init 28 = .ok (.return_, 1) := by decide +kernel
def fX0_init (N : Nat) : Option ((Nat → Int32)) :=
(fX10_init362 N).bind fun o5 =>
some o5
set_option maxHeartbeats 4000000 in
set_option maxRecDepth 100000 in
theorem kX0_init (l : Launch) (D : va_G) (tc : jTC) (N : Nat) (h_ a_p1 : Nat) : ctC l D tc yX0_init (Cond.code yX0_init cX0_init 2 none :: jtb) ({ frames := 2, cells := 4, slots := 1089, locals := 43 } : Room) [.ref h_, .ref a_p1] [(h_, .inr (0, [.null, .null, .int 0, .int 0]))] 4 1089 (fX0_init N) (fun (o5 : (Nat → Int32)) w => ∃ q1 q2 q3 q4, w = [(h_, .inr (0, [.ref a_p1, .ref q1, .int 0, .int (-1)])), (q1, .inr (10, [.ref q2, .ref q3, .ref q4])), (q2, .inl (tc.1, 362, .inl o5)), (q3, .inl (tc.2.1, 362, .inr (.inl (fun _ => 0)))), (q4, .inl (tc.2.1, 362, .inr (.inl (fun _ => 0))))]) := by
  refine ctC_of (lv0 := [(0, .ref h_), (1, .ref a_p1)]) (by decide +kernel) rfl (Nat.le_of_ble_eq_true rfl) rfl (fun X C hin => ?_)
  unfold fX0_init
  refine j_aload C d0_init_0 0 rfl ?_
  refine j_objInit C d0_init_1 ko0_5 lw_obI lw_obC ⟨(Nat.le_of_ble_eq_true rfl), (Nat.le_of_ble_eq_true rfl)⟩ (Nat.le_of_ble_eq_true rfl) ?_
  refine j_aload C d0_init_4 0 rfl ?_
  refine j_new C (fun q1 => [(h_, .inr (0, [.null, .null, .int 0, .int 0])), (q1, .inr (10, [.null, .null, .null]))]) d0_init_5 nw0_11 ⟨(Nat.le_of_ble_eq_true rfl), (Nat.le_of_ble_eq_true rfl)⟩ (fun _ => rfl) (fun q1 => ?_)
  refine j_dup C d0_init_8 rfl ?_
  refine j_const C d0_init_9 ?_
  refine j_callC (As := [.int 362]) C d0_init_12 mi0_13 (kX10_init362 _ _ tc N q1) ⟨rfl, rfl, (Nat.le_of_ble_eq_true rfl), (Nat.le_of_ble_eq_true rfl)⟩ rfl [1] rfl rfl rfl (Nat.le_of_ble_eq_true rfl) ⟨(Nat.le_of_ble_eq_true rfl), (Nat.le_of_ble_eq_true rfl)⟩ (fun o w hw => ?_)
  obtain ⟨o5, rfl⟩ : ∃ z, z = o := ⟨_, rfl⟩
  obtain ⟨q2, q3, q4, rfl⟩ := hw
  refine ⟨[(q1, .inr (10, [.ref q2, .ref q3, .ref q4]))], [(q2, .inl (tc.1, 362, .inl o5)), (q3, .inl (tc.2.1, 362, .inr (.inl (fun _ => 0)))), (q4, .inl (tc.2.1, 362, .inr (.inl (fun _ => 0))))], rfl, rfl, rfl, rfl, ?_⟩
  show jo X 2 (4, 1089) _ _ [(h_, .inr (0, [.null, .null, .int 0, .int 0])), (q1, .inr (10, [.ref q2, .ref q3, .ref q4])), (q2, .inl (tc.1, 362, .inl o5)), (q3, .inl (tc.2.1, 362, .inr (.inl (fun _ => 0)))), (q4, .inl (tc.2.1, 362, .inr (.inl (fun _ => 0))))] 15 [(0, .ref h_), (1, .ref a_p1)] [.ref q1, .ref h_]
  refine j_putF C hin d0_init_15 fp0_16 0 rfl rfl rfl (Nat.le_of_ble_eq_true rfl) (ws' := [(h_, .inr (0, [.null, .ref q1, .int 0, .int 0])), (q1, .inr (10, [.ref q2, .ref q3, .ref q4])), (q2, .inl (tc.1, 362, .inl o5)), (q3, .inl (tc.2.1, 362, .inr (.inl (fun _ => 0)))), (q4, .inl (tc.2.1, 362, .inr (.inl (fun _ => 0))))]) rfl ?_
  refine j_aload C d0_init_18 0 rfl ?_
  refine j_const C d0_init_19 ?_
  refine j_putq C d0_init_20 fq0_20 0 rfl rfl rfl (Nat.le_of_ble_eq_true rfl) (ws' := [(h_, .inr (0, [.null, .ref q1, .int 0, .int (-1)])), (q1, .inr (10, [.ref q2, .ref q3, .ref q4])), (q2, .inl (tc.1, 362, .inl o5)), (q3, .inl (tc.2.1, 362, .inr (.inl (fun _ => 0)))), (q4, .inl (tc.2.1, 362, .inr (.inl (fun _ => 0))))]) rfl ?_
  refine j_aload C d0_init_23 0 rfl ?_
  refine j_aload C d0_init_24 1 rfl ?_
  refine j_putF C hin d0_init_25 fp0_24 0 rfl rfl rfl (Nat.le_of_ble_eq_true rfl) (ws' := [(h_, .inr (0, [.ref a_p1, .ref q1, .int 0, .int (-1)])), (q1, .inr (10, [.ref q2, .ref q3, .ref q4])), (q2, .inl (tc.1, 362, .inl o5)), (q3, .inl (tc.2.1, 362, .inr (.inl (fun _ => 0)))), (q4, .inl (tc.2.1, 362, .inr (.inl (fun _ => 0))))]) rfl ?_
  exact j_cret C d0_init_28 ⟨_, _, _, _, rfl⟩

def bX10_init1469 (rc : Int32 → (Nat → Int32) → Option (Nat → Int32)) (v : Int32) (f : Nat → Int32) : Option (Nat → Int32) :=
if 1469 ≤ v then (some f) else ((as_ f 1469 v 41984).bind fun f2 =>
lt_ (v + 1) fun x => rc x f2)
def fX10_init1469 (N : Nat) : Option ((Nat → Int32)) :=
itr2 bX10_init1469 N 0 (fun _ => 0)
set_option maxHeartbeats 4000000 in
set_option maxRecDepth 100000 in
theorem kX10_init1469 (l : Launch) (D : va_G) (tc : jTC) (N : Nat) (h_  : Nat) : ctC l D tc yX10_init (Cond.code yX10_init cX10_init 3 none :: jtb) ({ frames := 1, cells := 3, slots := 4407, locals := 21 } : Room) [.ref h_, .int 1469] [(h_, .inr (10, [.null, .null, .null]))] 3 4407 (fX10_init1469 N) (fun (f : (Nat → Int32)) w => ∃ q1 q2 q3, w = [(h_, .inr (10, [.ref q1, .ref q2, .ref q3])), (q1, .inl (tc.1, 1469, .inl f)), (q2, .inl (tc.2.1, 1469, .inr (.inl (fun _ => 0)))), (q3, .inl (tc.2.1, 1469, .inr (.inl (fun _ => 0))))]) := by
  refine ctC_of (lv0 := [(0, .ref h_), (1, .int 1469)]) (by decide +kernel) rfl (Nat.le_of_ble_eq_true rfl) rfl (fun X C hin => ?_)
  unfold fX10_init1469
  refine j_aload C d10_init_0 0 rfl ?_
  refine j_objInit C d10_init_1 ko10_5 lw_obI lw_obC ⟨(Nat.le_of_ble_eq_true rfl), (Nat.le_of_ble_eq_true rfl)⟩ (Nat.le_of_ble_eq_true rfl) ?_
  refine j_aload C d10_init_4 0 rfl ?_
  refine j_iload C d10_init_5 1 rfl ?_
  refine j_const C d10_init_6 ?_
  refine j_mmaxK (v := 1469) C d10_init_7 kj10_11 ⟨(Nat.le_of_ble_eq_true rfl), (Nat.le_of_ble_eq_true rfl)⟩ ⟨(Nat.le_of_ble_eq_true rfl), (Nat.le_of_ble_eq_true rfl)⟩ (Nat.le_of_ble_eq_true rfl) (by decide +kernel) ?_
  refine j_newi (N := 1469) C (fun q1 => [(h_, .inr (10, [.null, .null, .null])), (q1, .inl (tc.1, 1469, .inl (fun _ => 0)))]) d10_init_10 lw_aI rfl (Nat.le_of_ble_eq_true rfl) ⟨(Nat.le_of_ble_eq_true rfl), (Nat.le_of_ble_eq_true rfl)⟩ (fun _ => rfl) (fun q1 => ?_)
  refine j_putF C hin d10_init_12 fp10_17 0 rfl rfl rfl (Nat.le_of_ble_eq_true rfl) (ws' := [(h_, .inr (10, [.ref q1, .null, .null])), (q1, .inl (tc.1, 1469, .inl (fun _ => 0)))]) rfl ?_
  refine j_aload C d10_init_15 0 rfl ?_
  refine j_iload C d10_init_16 1 rfl ?_
  refine j_const C d10_init_17 ?_
  refine j_mmaxK (v := 1469) C d10_init_18 kj10_11 ⟨(Nat.le_of_ble_eq_true rfl), (Nat.le_of_ble_eq_true rfl)⟩ ⟨(Nat.le_of_ble_eq_true rfl), (Nat.le_of_ble_eq_true rfl)⟩ (Nat.le_of_ble_eq_true rfl) (by decide +kernel) ?_
  refine j_newl (N := 1469) C (fun q2 => [(h_, .inr (10, [.ref q1, .null, .null])), (q1, .inl (tc.1, 1469, .inl (fun _ => 0))), (q2, .inl (tc.2.1, 1469, .inr (.inl (fun _ => 0))))]) d10_init_21 lw_aL rfl (Nat.le_of_ble_eq_true rfl) ⟨(Nat.le_of_ble_eq_true rfl), (Nat.le_of_ble_eq_true rfl)⟩ (fun _ => rfl) (fun q2 => ?_)
  refine j_putF C hin d10_init_23 fp10_21 0 rfl rfl rfl (Nat.le_of_ble_eq_true rfl) (ws' := [(h_, .inr (10, [.ref q1, .ref q2, .null])), (q1, .inl (tc.1, 1469, .inl (fun _ => 0))), (q2, .inl (tc.2.1, 1469, .inr (.inl (fun _ => 0))))]) rfl ?_
  refine j_aload C d10_init_26 0 rfl ?_
  refine j_iload C d10_init_27 1 rfl ?_
  refine j_const C d10_init_28 ?_
  refine j_mmaxK (v := 1469) C d10_init_29 kj10_11 ⟨(Nat.le_of_ble_eq_true rfl), (Nat.le_of_ble_eq_true rfl)⟩ ⟨(Nat.le_of_ble_eq_true rfl), (Nat.le_of_ble_eq_true rfl)⟩ (Nat.le_of_ble_eq_true rfl) (by decide +kernel) ?_
  refine j_newl (N := 1469) C (fun q3 => [(h_, .inr (10, [.ref q1, .ref q2, .null])), (q1, .inl (tc.1, 1469, .inl (fun _ => 0))), (q2, .inl (tc.2.1, 1469, .inr (.inl (fun _ => 0)))), (q3, .inl (tc.2.1, 1469, .inr (.inl (fun _ => 0))))]) d10_init_32 lw_aL rfl (Nat.le_of_ble_eq_true rfl) ⟨(Nat.le_of_ble_eq_true rfl), (Nat.le_of_ble_eq_true rfl)⟩ (fun _ => rfl) (fun q3 => ?_)
  refine j_putF C hin d10_init_34 fp10_25 0 rfl rfl rfl (Nat.le_of_ble_eq_true rfl) (ws' := [(h_, .inr (10, [.ref q1, .ref q2, .ref q3])), (q1, .inl (tc.1, 1469, .inl (fun _ => 0))), (q2, .inl (tc.2.1, 1469, .inr (.inl (fun _ => 0)))), (q3, .inl (tc.2.1, 1469, .inr (.inl (fun _ => 0))))]) rfl ?_
  refine j_const C d10_init_37 ?_
  refine j_istore C d10_init_38 (by decide) (lv' := [(2, .int 0), (0, .ref h_), (1, .int 1469)]) rfl ?_
  refine j_sub [1, 2, 0] rfl ?_
  refine j_loop2 (fun v f => [(h_, .inr (10, [.ref q1, .ref q2, .ref q3])), (q1, .inl (tc.1, 1469, .inl f)), (q2, .inl (tc.2.1, 1469, .inr (.inl (fun _ => 0)))), (q3, .inl (tc.2.1, 1469, .inr (.inl (fun _ => 0))))]) (fun v f => [(0, .ref h_), (1, .int 1469), (2, .int v)]) (fun rc hrc v f => ?_) N _ _
  unfold bX10_init1469
  refine j_iload C d10_init_39 2 rfl ?_
  refine j_iload C d10_init_40 1 rfl ?_
  refine j_icmp_ge C d10_init_41 ?_ ?_
  · exact j_cret C d10_init_58 ⟨_, _, _, rfl⟩
  · refine j_aload C d10_init_44 0 rfl ?_
    refine j_get C d10_init_45 fl10_17 0 rfl rfl ?_
    refine j_iload C d10_init_48 2 rfl ?_
    refine j_ldc C d10_init_49 kc10_28 ?_
    refine j_iast C (fun f => [(h_, .inr (10, [.ref q1, .ref q2, .ref q3])), (q1, .inl (tc.1, 1469, .inl f)), (q2, .inl (tc.2.1, 1469, .inr (.inl (fun _ => 0)))), (q3, .inl (tc.2.1, 1469, .inr (.inl (fun _ => 0))))]) d10_init_51 1 rfl (fun _ => rfl) (fun f2 => ?_)
    refine j_iincN C (fun x => [(2, .int x), (0, .ref h_), (1, .int 1469)]) d10_init_52 2 rfl (by decide +kernel) (by decide) (fun _ => rfl) (fun x => ?_)
    refine j_goto C d10_init_55 ?_
    exact j_sub [1, 2, 0] rfl (hrc _ _)

theorem d5_init_0 : jda cX5_init 0 0 1 := Or.inl ⟨0, by decide +kernel⟩
theorem d5_init_1 : jd cX5_init 1 (.invokespecial 5) 3 4 := by decide +kernel
theorem d5_init_4 : jda cX5_init 4 0 5 := Or.inl ⟨0, by decide +kernel⟩
theorem d5_init_5 : jdk cX5_init 5 8 7 := Or.inr (Or.inl ⟨8, by decide +kernel⟩)
theorem d5_init_7 : jd cX5_init 7 (.newarray .int) 2 9 := by decide +kernel
theorem d5_init_9 : jd cX5_init 9 (.putfield 11) 3 12 := by decide +kernel
theorem d5_init_12 : jda cX5_init 12 0 13 := Or.inl ⟨0, by decide +kernel⟩
theorem d5_init_13 : jd cX5_init 13 (.new 15) 3 16 := by decide +kernel
theorem d5_init_16 : jd cX5_init 16 (.dup) 1 17 := by decide +kernel
theorem d5_init_17 : jdk cX5_init 17 1469 20 := Or.inr (Or.inr ⟨1469, by decide +kernel⟩)
theorem d5_init_20 : jd cX5_init 20 (.invokespecial 17) 3 23 := by decide +kernel
theorem d5_init_23 : jd cX5_init 23 (.putfield 20) 3 26 := by decide +kernel
theorem d5_init_26 : jda cX5_init 26 0 27 := Or.inl ⟨0, by decide +kernel⟩
theorem d5_init_27 : jda cX5_init 27 1 28 := Or.inl ⟨1, by decide +kernel⟩
theorem d5_init_28 : jd cX5_init 28 (.putfield 24) 3 31 := by decide +kernel
theorem d5_init_31 : jda cX5_init 31 0 32 := Or.inl ⟨0, by decide +kernel⟩
theorem d5_init_32 : jda cX5_init 32 2 33 := Or.inl ⟨2, by decide +kernel⟩
theorem d5_init_33 : jd cX5_init 33 (.putfield 28) 3 36 := by decide +kernel
theorem d5_init_36 : jdk cX5_init 36 0 37 := Or.inl ⟨0, by decide +kernel⟩
theorem d5_init_37 : jds cX5_init 37 3 38 := Or.inl ⟨3, by decide +kernel⟩
theorem d5_init_38 : jdi cX5_init 38 3 39 := Or.inl ⟨3, by decide +kernel⟩
theorem d5_init_39 : jdk cX5_init 39 8 41 := Or.inr (Or.inl ⟨8, by decide +kernel⟩)
theorem d5_init_41 : jdb cX5_init 41 (.if_icmp .ge 16) 16 57 44 := by decide +kernel
theorem d5_init_44 : jda cX5_init 44 0 45 := Or.inl ⟨0, by decide +kernel⟩
theorem d5_init_45 : jd cX5_init 45 (.getfield 11) 3 48 := by decide +kernel
theorem d5_init_48 : jdi cX5_init 48 3 49 := Or.inl ⟨3, by decide +kernel⟩
theorem d5_init_49 : jdk cX5_init 49 1 50 := Or.inl ⟨1, by decide +kernel⟩
theorem d5_init_50 : jd cX5_init 50 (.iastore) 1 51 := by decide +kernel
theorem d5_init_51 : jd cX5_init 51 (.iinc 3 1) 3 54 := by decide +kernel
theorem d5_init_54 : jdb cX5_init 54 (.goto (-16)) (-16) 38 57 := by decide +kernel
theorem d5_init_57 : decode cX5_init 57 = .ok (.return_, 1) := by decide +kernel
def fX5_init (N : Nat) : Option ((Nat → Int32)) :=
(fX10_init1469 N).bind fun o6 =>
some o6
set_option maxHeartbeats 4000000 in
set_option maxRecDepth 100000 in
theorem kX5_init (l : Launch) (D : va_G) (tc : jTC) (N : Nat) (h_ a_p1 a_p2 : Nat) : ctC l D tc yX5_init (Cond.code yX5_init cX5_init 4 none :: jtb) ({ frames := 2, cells := 5, slots := 4418, locals := 43 } : Room) [.ref h_, .ref a_p1, .ref a_p2] [(h_, .inr (5, [.null, .null, .null, .null]))] 5 4418 (fX5_init N) (fun (o6 : (Nat → Int32)) w => ∃ q1 q2 q3 q4 q5, w = [(h_, .inr (5, [.ref a_p1, .ref a_p2, .ref q1, .ref q2])), (q1, .inl (tc.1, 8, .inl (upd (upd (upd (upd (upd (upd (upd (upd (fun _ => 0) 0 1) 1 1) 2 1) 3 1) 4 1) 5 1) 6 1) 7 1))), (q2, .inr (10, [.ref q3, .ref q4, .ref q5])), (q3, .inl (tc.1, 1469, .inl o6)), (q4, .inl (tc.2.1, 1469, .inr (.inl (fun _ => 0)))), (q5, .inl (tc.2.1, 1469, .inr (.inl (fun _ => 0))))]) := by
  refine ctC_of (lv0 := [(0, .ref h_), (1, .ref a_p1), (2, .ref a_p2)]) (by decide +kernel) rfl (Nat.le_of_ble_eq_true rfl) rfl (fun X C hin => ?_)
  unfold fX5_init
  refine j_aload C d5_init_0 0 rfl ?_
  refine j_objInit C d5_init_1 ko5_5 lw_obI lw_obC ⟨(Nat.le_of_ble_eq_true rfl), (Nat.le_of_ble_eq_true rfl)⟩ (Nat.le_of_ble_eq_true rfl) ?_
  refine j_aload C d5_init_4 0 rfl ?_
  refine j_const C d5_init_5 ?_
  refine j_newi (N := 8) C (fun q1 => [(h_, .inr (5, [.null, .null, .null, .null])), (q1, .inl (tc.1, 8, .inl (fun _ => 0)))]) d5_init_7 lw_aI rfl (Nat.le_of_ble_eq_true rfl) ⟨(Nat.le_of_ble_eq_true rfl), (Nat.le_of_ble_eq_true rfl)⟩ (fun _ => rfl) (fun q1 => ?_)
  refine j_putF C hin d5_init_9 fp5_11 0 rfl rfl rfl (Nat.le_of_ble_eq_true rfl) (ws' := [(h_, .inr (5, [.null, .null, .ref q1, .null])), (q1, .inl (tc.1, 8, .inl (fun _ => 0)))]) rfl ?_
  refine j_aload C d5_init_12 0 rfl ?_
  refine j_new C (fun q2 => [(h_, .inr (5, [.null, .null, .ref q1, .null])), (q1, .inl (tc.1, 8, .inl (fun _ => 0))), (q2, .inr (10, [.null, .null, .null]))]) d5_init_13 nw5_15 ⟨(Nat.le_of_ble_eq_true rfl), (Nat.le_of_ble_eq_true rfl)⟩ (fun _ => rfl) (fun q2 => ?_)
  refine j_dup C d5_init_16 rfl ?_
  refine j_const C d5_init_17 ?_
  refine j_callC (As := [.int 1469]) C d5_init_20 mi5_17 (kX10_init1469 _ _ tc N q2) ⟨rfl, rfl, (Nat.le_of_ble_eq_true rfl), (Nat.le_of_ble_eq_true rfl)⟩ rfl [2] rfl rfl rfl (Nat.le_of_ble_eq_true rfl) ⟨(Nat.le_of_ble_eq_true rfl), (Nat.le_of_ble_eq_true rfl)⟩ (fun o w hw => ?_)
  obtain ⟨o6, rfl⟩ : ∃ z, z = o := ⟨_, rfl⟩
  obtain ⟨q3, q4, q5, rfl⟩ := hw
  refine ⟨[(q2, .inr (10, [.ref q3, .ref q4, .ref q5]))], [(q3, .inl (tc.1, 1469, .inl o6)), (q4, .inl (tc.2.1, 1469, .inr (.inl (fun _ => 0)))), (q5, .inl (tc.2.1, 1469, .inr (.inl (fun _ => 0))))], rfl, rfl, rfl, rfl, ?_⟩
  show jo X 4 (5, 4418) _ _ [(h_, .inr (5, [.null, .null, .ref q1, .null])), (q1, .inl (tc.1, 8, .inl (fun _ => 0))), (q2, .inr (10, [.ref q3, .ref q4, .ref q5])), (q3, .inl (tc.1, 1469, .inl o6)), (q4, .inl (tc.2.1, 1469, .inr (.inl (fun _ => 0)))), (q5, .inl (tc.2.1, 1469, .inr (.inl (fun _ => 0))))] 23 [(0, .ref h_), (1, .ref a_p1), (2, .ref a_p2)] [.ref q2, .ref h_]
  refine j_putF C hin d5_init_23 fp5_20 0 rfl rfl rfl (Nat.le_of_ble_eq_true rfl) (ws' := [(h_, .inr (5, [.null, .null, .ref q1, .ref q2])), (q1, .inl (tc.1, 8, .inl (fun _ => 0))), (q2, .inr (10, [.ref q3, .ref q4, .ref q5])), (q3, .inl (tc.1, 1469, .inl o6)), (q4, .inl (tc.2.1, 1469, .inr (.inl (fun _ => 0)))), (q5, .inl (tc.2.1, 1469, .inr (.inl (fun _ => 0))))]) rfl ?_
  refine j_aload C d5_init_26 0 rfl ?_
  refine j_aload C d5_init_27 1 rfl ?_
  refine j_putF C hin d5_init_28 fp5_24 0 rfl rfl rfl (Nat.le_of_ble_eq_true rfl) (ws' := [(h_, .inr (5, [.ref a_p1, .null, .ref q1, .ref q2])), (q1, .inl (tc.1, 8, .inl (fun _ => 0))), (q2, .inr (10, [.ref q3, .ref q4, .ref q5])), (q3, .inl (tc.1, 1469, .inl o6)), (q4, .inl (tc.2.1, 1469, .inr (.inl (fun _ => 0)))), (q5, .inl (tc.2.1, 1469, .inr (.inl (fun _ => 0))))]) rfl ?_
  refine j_aload C d5_init_31 0 rfl ?_
  refine j_aload C d5_init_32 2 rfl ?_
  refine j_putF C hin d5_init_33 fp5_28 0 rfl rfl rfl (Nat.le_of_ble_eq_true rfl) (ws' := [(h_, .inr (5, [.ref a_p1, .ref a_p2, .ref q1, .ref q2])), (q1, .inl (tc.1, 8, .inl (fun _ => 0))), (q2, .inr (10, [.ref q3, .ref q4, .ref q5])), (q3, .inl (tc.1, 1469, .inl o6)), (q4, .inl (tc.2.1, 1469, .inr (.inl (fun _ => 0)))), (q5, .inl (tc.2.1, 1469, .inr (.inl (fun _ => 0))))]) rfl ?_
  refine j_const C d5_init_36 ?_
  refine j_istore C d5_init_37 (by decide) (lv' := [(3, .int 0), (0, .ref h_), (1, .ref a_p1), (2, .ref a_p2)]) rfl ?_
  refine j_iload C d5_init_38 0 rfl ?_
  refine j_const C d5_init_39 ?_
  refine j_icmp_geF C d5_init_41 (by decide +kernel) ?_
  refine j_aload C d5_init_44 1 rfl ?_
  refine j_get C d5_init_45 fl5_11 0 rfl rfl ?_
  refine j_iload C d5_init_48 0 rfl ?_
  refine j_const C d5_init_49 ?_
  refine j_iastK (j := 0) C d5_init_50 1 rfl rfl (Nat.le_of_ble_eq_true rfl) (Nat.le_of_ble_eq_true rfl) (ws' := [(h_, .inr (5, [.ref a_p1, .ref a_p2, .ref q1, .ref q2])), (q1, .inl (tc.1, 8, .inl (upd (fun _ => 0) 0 1))), (q2, .inr (10, [.ref q3, .ref q4, .ref q5])), (q3, .inl (tc.1, 1469, .inl o6)), (q4, .inl (tc.2.1, 1469, .inr (.inl (fun _ => 0)))), (q5, .inl (tc.2.1, 1469, .inr (.inl (fun _ => 0))))]) rfl ?_
  refine j_iinc (v := 1) (lv' := [(3, .int 1), (0, .ref h_), (1, .ref a_p1), (2, .ref a_p2)]) C d5_init_51 0 rfl (by decide +kernel) (by decide) rfl ?_
  refine j_goto C d5_init_54 ?_
  refine j_iload C d5_init_38 0 rfl ?_
  refine j_const C d5_init_39 ?_
  refine j_icmp_geF C d5_init_41 (by decide +kernel) ?_
  refine j_aload C d5_init_44 1 rfl ?_
  refine j_get C d5_init_45 fl5_11 0 rfl rfl ?_
  refine j_iload C d5_init_48 0 rfl ?_
  refine j_const C d5_init_49 ?_
  refine j_iastK (j := 1) C d5_init_50 1 rfl rfl (Nat.le_of_ble_eq_true rfl) (Nat.le_of_ble_eq_true rfl) (ws' := [(h_, .inr (5, [.ref a_p1, .ref a_p2, .ref q1, .ref q2])), (q1, .inl (tc.1, 8, .inl (upd (upd (fun _ => 0) 0 1) 1 1))), (q2, .inr (10, [.ref q3, .ref q4, .ref q5])), (q3, .inl (tc.1, 1469, .inl o6)), (q4, .inl (tc.2.1, 1469, .inr (.inl (fun _ => 0)))), (q5, .inl (tc.2.1, 1469, .inr (.inl (fun _ => 0))))]) rfl ?_
  refine j_iinc (v := 2) (lv' := [(3, .int 2), (0, .ref h_), (1, .ref a_p1), (2, .ref a_p2)]) C d5_init_51 0 rfl (by decide +kernel) (by decide) rfl ?_
  refine j_goto C d5_init_54 ?_
  refine j_iload C d5_init_38 0 rfl ?_
  refine j_const C d5_init_39 ?_
  refine j_icmp_geF C d5_init_41 (by decide +kernel) ?_
  refine j_aload C d5_init_44 1 rfl ?_
  refine j_get C d5_init_45 fl5_11 0 rfl rfl ?_
  refine j_iload C d5_init_48 0 rfl ?_
  refine j_const C d5_init_49 ?_
  refine j_iastK (j := 2) C d5_init_50 1 rfl rfl (Nat.le_of_ble_eq_true rfl) (Nat.le_of_ble_eq_true rfl) (ws' := [(h_, .inr (5, [.ref a_p1, .ref a_p2, .ref q1, .ref q2])), (q1, .inl (tc.1, 8, .inl (upd (upd (upd (fun _ => 0) 0 1) 1 1) 2 1))), (q2, .inr (10, [.ref q3, .ref q4, .ref q5])), (q3, .inl (tc.1, 1469, .inl o6)), (q4, .inl (tc.2.1, 1469, .inr (.inl (fun _ => 0)))), (q5, .inl (tc.2.1, 1469, .inr (.inl (fun _ => 0))))]) rfl ?_
  refine j_iinc (v := 3) (lv' := [(3, .int 3), (0, .ref h_), (1, .ref a_p1), (2, .ref a_p2)]) C d5_init_51 0 rfl (by decide +kernel) (by decide) rfl ?_
  refine j_goto C d5_init_54 ?_
  refine j_iload C d5_init_38 0 rfl ?_
  refine j_const C d5_init_39 ?_
  refine j_icmp_geF C d5_init_41 (by decide +kernel) ?_
  refine j_aload C d5_init_44 1 rfl ?_
  refine j_get C d5_init_45 fl5_11 0 rfl rfl ?_
  refine j_iload C d5_init_48 0 rfl ?_
  refine j_const C d5_init_49 ?_
  refine j_iastK (j := 3) C d5_init_50 1 rfl rfl (Nat.le_of_ble_eq_true rfl) (Nat.le_of_ble_eq_true rfl) (ws' := [(h_, .inr (5, [.ref a_p1, .ref a_p2, .ref q1, .ref q2])), (q1, .inl (tc.1, 8, .inl (upd (upd (upd (upd (fun _ => 0) 0 1) 1 1) 2 1) 3 1))), (q2, .inr (10, [.ref q3, .ref q4, .ref q5])), (q3, .inl (tc.1, 1469, .inl o6)), (q4, .inl (tc.2.1, 1469, .inr (.inl (fun _ => 0)))), (q5, .inl (tc.2.1, 1469, .inr (.inl (fun _ => 0))))]) rfl ?_
  refine j_iinc (v := 4) (lv' := [(3, .int 4), (0, .ref h_), (1, .ref a_p1), (2, .ref a_p2)]) C d5_init_51 0 rfl (by decide +kernel) (by decide) rfl ?_
  refine j_goto C d5_init_54 ?_
  refine j_iload C d5_init_38 0 rfl ?_
  refine j_const C d5_init_39 ?_
  refine j_icmp_geF C d5_init_41 (by decide +kernel) ?_
  refine j_aload C d5_init_44 1 rfl ?_
  refine j_get C d5_init_45 fl5_11 0 rfl rfl ?_
  refine j_iload C d5_init_48 0 rfl ?_
  refine j_const C d5_init_49 ?_
  refine j_iastK (j := 4) C d5_init_50 1 rfl rfl (Nat.le_of_ble_eq_true rfl) (Nat.le_of_ble_eq_true rfl) (ws' := [(h_, .inr (5, [.ref a_p1, .ref a_p2, .ref q1, .ref q2])), (q1, .inl (tc.1, 8, .inl (upd (upd (upd (upd (upd (fun _ => 0) 0 1) 1 1) 2 1) 3 1) 4 1))), (q2, .inr (10, [.ref q3, .ref q4, .ref q5])), (q3, .inl (tc.1, 1469, .inl o6)), (q4, .inl (tc.2.1, 1469, .inr (.inl (fun _ => 0)))), (q5, .inl (tc.2.1, 1469, .inr (.inl (fun _ => 0))))]) rfl ?_
  refine j_iinc (v := 5) (lv' := [(3, .int 5), (0, .ref h_), (1, .ref a_p1), (2, .ref a_p2)]) C d5_init_51 0 rfl (by decide +kernel) (by decide) rfl ?_
  refine j_goto C d5_init_54 ?_
  refine j_iload C d5_init_38 0 rfl ?_
  refine j_const C d5_init_39 ?_
  refine j_icmp_geF C d5_init_41 (by decide +kernel) ?_
  refine j_aload C d5_init_44 1 rfl ?_
  refine j_get C d5_init_45 fl5_11 0 rfl rfl ?_
  refine j_iload C d5_init_48 0 rfl ?_
  refine j_const C d5_init_49 ?_
  refine j_iastK (j := 5) C d5_init_50 1 rfl rfl (Nat.le_of_ble_eq_true rfl) (Nat.le_of_ble_eq_true rfl) (ws' := [(h_, .inr (5, [.ref a_p1, .ref a_p2, .ref q1, .ref q2])), (q1, .inl (tc.1, 8, .inl (upd (upd (upd (upd (upd (upd (fun _ => 0) 0 1) 1 1) 2 1) 3 1) 4 1) 5 1))), (q2, .inr (10, [.ref q3, .ref q4, .ref q5])), (q3, .inl (tc.1, 1469, .inl o6)), (q4, .inl (tc.2.1, 1469, .inr (.inl (fun _ => 0)))), (q5, .inl (tc.2.1, 1469, .inr (.inl (fun _ => 0))))]) rfl ?_
  refine j_iinc (v := 6) (lv' := [(3, .int 6), (0, .ref h_), (1, .ref a_p1), (2, .ref a_p2)]) C d5_init_51 0 rfl (by decide +kernel) (by decide) rfl ?_
  refine j_goto C d5_init_54 ?_
  refine j_iload C d5_init_38 0 rfl ?_
  refine j_const C d5_init_39 ?_
  refine j_icmp_geF C d5_init_41 (by decide +kernel) ?_
  refine j_aload C d5_init_44 1 rfl ?_
  refine j_get C d5_init_45 fl5_11 0 rfl rfl ?_
  refine j_iload C d5_init_48 0 rfl ?_
  refine j_const C d5_init_49 ?_
  refine j_iastK (j := 6) C d5_init_50 1 rfl rfl (Nat.le_of_ble_eq_true rfl) (Nat.le_of_ble_eq_true rfl) (ws' := [(h_, .inr (5, [.ref a_p1, .ref a_p2, .ref q1, .ref q2])), (q1, .inl (tc.1, 8, .inl (upd (upd (upd (upd (upd (upd (upd (fun _ => 0) 0 1) 1 1) 2 1) 3 1) 4 1) 5 1) 6 1))), (q2, .inr (10, [.ref q3, .ref q4, .ref q5])), (q3, .inl (tc.1, 1469, .inl o6)), (q4, .inl (tc.2.1, 1469, .inr (.inl (fun _ => 0)))), (q5, .inl (tc.2.1, 1469, .inr (.inl (fun _ => 0))))]) rfl ?_
  refine j_iinc (v := 7) (lv' := [(3, .int 7), (0, .ref h_), (1, .ref a_p1), (2, .ref a_p2)]) C d5_init_51 0 rfl (by decide +kernel) (by decide) rfl ?_
  refine j_goto C d5_init_54 ?_
  refine j_iload C d5_init_38 0 rfl ?_
  refine j_const C d5_init_39 ?_
  refine j_icmp_geF C d5_init_41 (by decide +kernel) ?_
  refine j_aload C d5_init_44 1 rfl ?_
  refine j_get C d5_init_45 fl5_11 0 rfl rfl ?_
  refine j_iload C d5_init_48 0 rfl ?_
  refine j_const C d5_init_49 ?_
  refine j_iastK (j := 7) C d5_init_50 1 rfl rfl (Nat.le_of_ble_eq_true rfl) (Nat.le_of_ble_eq_true rfl) (ws' := [(h_, .inr (5, [.ref a_p1, .ref a_p2, .ref q1, .ref q2])), (q1, .inl (tc.1, 8, .inl (upd (upd (upd (upd (upd (upd (upd (upd (fun _ => 0) 0 1) 1 1) 2 1) 3 1) 4 1) 5 1) 6 1) 7 1))), (q2, .inr (10, [.ref q3, .ref q4, .ref q5])), (q3, .inl (tc.1, 1469, .inl o6)), (q4, .inl (tc.2.1, 1469, .inr (.inl (fun _ => 0)))), (q5, .inl (tc.2.1, 1469, .inr (.inl (fun _ => 0))))]) rfl ?_
  refine j_iinc (v := 8) (lv' := [(3, .int 8), (0, .ref h_), (1, .ref a_p1), (2, .ref a_p2)]) C d5_init_51 0 rfl (by decide +kernel) (by decide) rfl ?_
  refine j_goto C d5_init_54 ?_
  refine j_iload C d5_init_38 0 rfl ?_
  refine j_const C d5_init_39 ?_
  refine j_icmp_geT C d5_init_41 (by decide +kernel) ?_
  exact j_cret C d5_init_57 ⟨_, _, _, _, _, rfl⟩

theorem d12_init_0 : jda cX12_init 0 0 1 := Or.inl ⟨0, by decide +kernel⟩
theorem d12_init_1 : jd cX12_init 1 (.invokespecial 3) 3 4 := by decide +kernel
theorem d12_init_4 : jda cX12_init 4 0 5 := Or.inl ⟨0, by decide +kernel⟩
theorem d12_init_5 : jdk cX12_init 5 24 7 := Or.inr (Or.inl ⟨24, by decide +kernel⟩)
theorem d12_init_7 : jd cX12_init 7 (.newarray .int) 2 9 := by decide +kernel
theorem d12_init_9 : jd cX12_init 9 (.putfield 9) 3 12 := by decide +kernel
theorem d12_init_12 : jda cX12_init 12 0 13 := Or.inl ⟨0, by decide +kernel⟩
theorem d12_init_13 : jdk cX12_init 13 24 15 := Or.inr (Or.inl ⟨24, by decide +kernel⟩)
theorem d12_init_15 : jd cX12_init 15 (.newarray .int) 2 17 := by decide +kernel
theorem d12_init_17 : jd cX12_init 17 (.putfield 13) 3 20 := by decide +kernel
theorem d12_init_20 : jda cX12_init 20 0 21 := Or.inl ⟨0, by decide +kernel⟩
theorem d12_init_21 : jdk cX12_init 21 120 23 := Or.inr (Or.inl ⟨120, by decide +kernel⟩)
theorem d12_init_23 : jd cX12_init 23 (.newarray .int) 2 25 := by decide +kernel
theorem d12_init_25 : jd cX12_init 25 (.putfield 16) 3 28 := by decide +kernel
theorem d12_init_28 : jda cX12_init 28 0 29 := Or.inl ⟨0, by decide +kernel⟩
theorem d12_init_29 : jdk cX12_init 29 10 31 := Or.inr (Or.inl ⟨10, by decide +kernel⟩)
theorem d12_init_31 : jd cX12_init 31 (.newarray .int) 2 33 := by decide +kernel
theorem d12_init_33 : jd cX12_init 33 (.putfield 19) 3 36 := by decide +kernel
theorem d12_init_36 : jda cX12_init 36 0 37 := Or.inl ⟨0, by decide +kernel⟩
theorem d12_init_37 : jdk cX12_init 37 240 40 := Or.inr (Or.inr ⟨240, by decide +kernel⟩)
theorem d12_init_40 : jd cX12_init 40 (.newarray .int) 2 42 := by decide +kernel
theorem d12_init_42 : jd cX12_init 42 (.putfield 22) 3 45 := by decide +kernel
theorem d12_init_45 : jda cX12_init 45 0 46 := Or.inl ⟨0, by decide +kernel⟩
theorem d12_init_46 : jdk cX12_init 46 240 49 := Or.inr (Or.inr ⟨240, by decide +kernel⟩)
theorem d12_init_49 : jd cX12_init 49 (.newarray .int) 2 51 := by decide +kernel
theorem d12_init_51 : jd cX12_init 51 (.putfield 25) 3 54 := by decide +kernel
theorem d12_init_54 : jda cX12_init 54 0 55 := Or.inl ⟨0, by decide +kernel⟩
theorem d12_init_55 : jdk cX12_init 55 1200 58 := Or.inr (Or.inr ⟨1200, by decide +kernel⟩)
theorem d12_init_58 : jd cX12_init 58 (.newarray .int) 2 60 := by decide +kernel
theorem d12_init_60 : jd cX12_init 60 (.putfield 28) 3 63 := by decide +kernel
theorem d12_init_63 : jda cX12_init 63 0 64 := Or.inl ⟨0, by decide +kernel⟩
theorem d12_init_64 : jdk cX12_init 64 3 65 := Or.inl ⟨3, by decide +kernel⟩
theorem d12_init_65 : jd cX12_init 65 (.newarray .int) 2 67 := by decide +kernel
theorem d12_init_67 : jd cX12_init 67 (.putfield 31) 3 70 := by decide +kernel
theorem d12_init_70 : jda cX12_init 70 0 71 := Or.inl ⟨0, by decide +kernel⟩
theorem d12_init_71 : jdk cX12_init 71 3 72 := Or.inl ⟨3, by decide +kernel⟩
theorem d12_init_72 : jd cX12_init 72 (.newarray .int) 2 74 := by decide +kernel
theorem d12_init_74 : jd cX12_init 74 (.putfield 34) 3 77 := by decide +kernel
theorem d12_init_77 : jda cX12_init 77 0 78 := Or.inl ⟨0, by decide +kernel⟩
theorem d12_init_78 : jdk cX12_init 78 5 79 := Or.inl ⟨5, by decide +kernel⟩
theorem d12_init_79 : jd cX12_init 79 (.newarray .int) 2 81 := by decide +kernel
theorem d12_init_81 : jd cX12_init 81 (.putfield 37) 3 84 := by decide +kernel
theorem d12_init_84 : jda cX12_init 84 0 85 := Or.inl ⟨0, by decide +kernel⟩
theorem d12_init_85 : jdk cX12_init 85 8 87 := Or.inr (Or.inl ⟨8, by decide +kernel⟩)
theorem d12_init_87 : jd cX12_init 87 (.newarray .int) 2 89 := by decide +kernel
theorem d12_init_89 : jd cX12_init 89 (.putfield 40) 3 92 := by decide +kernel
theorem d12_init_92 : jda cX12_init 92 0 93 := Or.inl ⟨0, by decide +kernel⟩
theorem d12_init_93 : jdk cX12_init 93 8 95 := Or.inr (Or.inl ⟨8, by decide +kernel⟩)
theorem d12_init_95 : jd cX12_init 95 (.newarray .int) 2 97 := by decide +kernel
theorem d12_init_97 : jd cX12_init 97 (.putfield 43) 3 100 := by decide +kernel
theorem d12_init_100 : jda cX12_init 100 0 101 := Or.inl ⟨0, by decide +kernel⟩
theorem d12_init_101 : jdk cX12_init 101 8 103 := Or.inr (Or.inl ⟨8, by decide +kernel⟩)
theorem d12_init_103 : jd cX12_init 103 (.newarray .int) 2 105 := by decide +kernel
theorem d12_init_105 : jd cX12_init 105 (.putfield 46) 3 108 := by decide +kernel
theorem d12_init_108 : jda cX12_init 108 0 109 := Or.inl ⟨0, by decide +kernel⟩
theorem d12_init_109 : jdk cX12_init 109 8 111 := Or.inr (Or.inl ⟨8, by decide +kernel⟩)
theorem d12_init_111 : jd cX12_init 111 (.newarray .int) 2 113 := by decide +kernel
theorem d12_init_113 : jd cX12_init 113 (.putfield 49) 3 116 := by decide +kernel
theorem d12_init_116 : jda cX12_init 116 0 117 := Or.inl ⟨0, by decide +kernel⟩
theorem d12_init_117 : jdk cX12_init 117 1280 120 := Or.inr (Or.inr ⟨1280, by decide +kernel⟩)
theorem d12_init_120 : jd cX12_init 120 (.newarray .int) 2 122 := by decide +kernel
theorem d12_init_122 : jd cX12_init 122 (.putfield 52) 3 125 := by decide +kernel
theorem d12_init_125 : jda cX12_init 125 0 126 := Or.inl ⟨0, by decide +kernel⟩
theorem d12_init_126 : jdk cX12_init 126 32 128 := Or.inr (Or.inl ⟨32, by decide +kernel⟩)
theorem d12_init_128 : jd cX12_init 128 (.newarray .int) 2 130 := by decide +kernel
theorem d12_init_130 : jd cX12_init 130 (.putfield 55) 3 133 := by decide +kernel
theorem d12_init_133 : jda cX12_init 133 0 134 := Or.inl ⟨0, by decide +kernel⟩
theorem d12_init_134 : jdk cX12_init 134 40 136 := Or.inr (Or.inl ⟨40, by decide +kernel⟩)
theorem d12_init_136 : jd cX12_init 136 (.newarray .int) 2 138 := by decide +kernel
theorem d12_init_138 : jd cX12_init 138 (.putfield 58) 3 141 := by decide +kernel
theorem d12_init_141 : jda cX12_init 141 0 142 := Or.inl ⟨0, by decide +kernel⟩
theorem d12_init_142 : jdk cX12_init 142 120 144 := Or.inr (Or.inl ⟨120, by decide +kernel⟩)
theorem d12_init_144 : jd cX12_init 144 (.newarray .int) 2 146 := by decide +kernel
theorem d12_init_146 : jd cX12_init 146 (.putfield 61) 3 149 := by decide +kernel
theorem d12_init_149 : jda cX12_init 149 0 150 := Or.inl ⟨0, by decide +kernel⟩
theorem d12_init_150 : jdk cX12_init 150 24 152 := Or.inr (Or.inl ⟨24, by decide +kernel⟩)
theorem d12_init_152 : jd cX12_init 152 (.newarray .int) 2 154 := by decide +kernel
theorem d12_init_154 : jd cX12_init 154 (.putfield 64) 3 157 := by decide +kernel
theorem d12_init_157 : jda cX12_init 157 0 158 := Or.inl ⟨0, by decide +kernel⟩
theorem d12_init_158 : jdk cX12_init 158 8 160 := Or.inr (Or.inl ⟨8, by decide +kernel⟩)
theorem d12_init_160 : jd cX12_init 160 (.newarray .int) 2 162 := by decide +kernel
theorem d12_init_162 : jd cX12_init 162 (.putfield 67) 3 165 := by decide +kernel
theorem d12_init_165 : jda cX12_init 165 0 166 := Or.inl ⟨0, by decide +kernel⟩
theorem d12_init_166 : jdk cX12_init 166 40 168 := Or.inr (Or.inl ⟨40, by decide +kernel⟩)
theorem d12_init_168 : jd cX12_init 168 (.newarray .int) 2 170 := by decide +kernel
theorem d12_init_170 : jd cX12_init 170 (.putfield 70) 3 173 := by decide +kernel
theorem d12_init_173 : jda cX12_init 173 0 174 := Or.inl ⟨0, by decide +kernel⟩
theorem d12_init_174 : jdk cX12_init 174 66 176 := Or.inr (Or.inl ⟨66, by decide +kernel⟩)
theorem d12_init_176 : jd cX12_init 176 (.newarray .int) 2 178 := by decide +kernel
theorem d12_init_178 : jd cX12_init 178 (.putfield 73) 3 181 := by decide +kernel
theorem d12_init_181 : jda cX12_init 181 0 182 := Or.inl ⟨0, by decide +kernel⟩
theorem d12_init_182 : jdk cX12_init 182 66 184 := Or.inr (Or.inl ⟨66, by decide +kernel⟩)
theorem d12_init_184 : jd cX12_init 184 (.newarray .int) 2 186 := by decide +kernel
theorem d12_init_186 : jd cX12_init 186 (.putfield 76) 3 189 := by decide +kernel
theorem d12_init_189 : jda cX12_init 189 0 190 := Or.inl ⟨0, by decide +kernel⟩
theorem d12_init_190 : jdk cX12_init 190 300 193 := Or.inr (Or.inr ⟨300, by decide +kernel⟩)
theorem d12_init_193 : jd cX12_init 193 (.newarray .int) 2 195 := by decide +kernel
theorem d12_init_195 : jd cX12_init 195 (.putfield 79) 3 198 := by decide +kernel
theorem d12_init_198 : jda cX12_init 198 0 199 := Or.inl ⟨0, by decide +kernel⟩
theorem d12_init_199 : jdk cX12_init 199 300 202 := Or.inr (Or.inr ⟨300, by decide +kernel⟩)
theorem d12_init_202 : jd cX12_init 202 (.newarray .int) 2 204 := by decide +kernel
theorem d12_init_204 : jd cX12_init 204 (.putfield 82) 3 207 := by decide +kernel
theorem d12_init_207 : jda cX12_init 207 0 208 := Or.inl ⟨0, by decide +kernel⟩
theorem d12_init_208 : jdk cX12_init 208 300 211 := Or.inr (Or.inr ⟨300, by decide +kernel⟩)
theorem d12_init_211 : jd cX12_init 211 (.newarray .int) 2 213 := by decide +kernel
theorem d12_init_213 : jd cX12_init 213 (.putfield 85) 3 216 := by decide +kernel
theorem d12_init_216 : jda cX12_init 216 0 217 := Or.inl ⟨0, by decide +kernel⟩
theorem d12_init_217 : jdk cX12_init 217 300 220 := Or.inr (Or.inr ⟨300, by decide +kernel⟩)
theorem d12_init_220 : jd cX12_init 220 (.newarray .int) 2 222 := by decide +kernel
theorem d12_init_222 : jd cX12_init 222 (.putfield 88) 3 225 := by decide +kernel
theorem d12_init_225 : jda cX12_init 225 0 226 := Or.inl ⟨0, by decide +kernel⟩
theorem d12_init_226 : jdk cX12_init 226 300 229 := Or.inr (Or.inr ⟨300, by decide +kernel⟩)
theorem d12_init_229 : jd cX12_init 229 (.newarray .int) 2 231 := by decide +kernel
theorem d12_init_231 : jd cX12_init 231 (.putfield 91) 3 234 := by decide +kernel
theorem d12_init_234 : jda cX12_init 234 0 235 := Or.inl ⟨0, by decide +kernel⟩
theorem d12_init_235 : jdk cX12_init 235 300 238 := Or.inr (Or.inr ⟨300, by decide +kernel⟩)
theorem d12_init_238 : jd cX12_init 238 (.newarray .int) 2 240 := by decide +kernel
theorem d12_init_240 : jd cX12_init 240 (.putfield 94) 3 243 := by decide +kernel
theorem d12_init_243 : jda cX12_init 243 0 244 := Or.inl ⟨0, by decide +kernel⟩
theorem d12_init_244 : jdk cX12_init 244 8 246 := Or.inr (Or.inl ⟨8, by decide +kernel⟩)
theorem d12_init_246 : jd cX12_init 246 (.newarray .int) 2 248 := by decide +kernel
theorem d12_init_248 : jd cX12_init 248 (.dup) 1 249 := by decide +kernel
theorem d12_init_249 : jdk cX12_init 249 0 250 := Or.inl ⟨0, by decide +kernel⟩
theorem d12_init_250 : jdk cX12_init 250 1 251 := Or.inl ⟨1, by decide +kernel⟩
theorem d12_init_251 : jd cX12_init 251 (.iastore) 1 252 := by decide +kernel
theorem d12_init_252 : jd cX12_init 252 (.dup) 1 253 := by decide +kernel
theorem d12_init_253 : jdk cX12_init 253 1 254 := Or.inl ⟨1, by decide +kernel⟩
theorem d12_init_254 : jdk cX12_init 254 1 255 := Or.inl ⟨1, by decide +kernel⟩
theorem d12_init_255 : jd cX12_init 255 (.iastore) 1 256 := by decide +kernel
theorem d12_init_256 : jd cX12_init 256 (.dup) 1 257 := by decide +kernel
theorem d12_init_257 : jdk cX12_init 257 2 258 := Or.inl ⟨2, by decide +kernel⟩
theorem d12_init_258 : jdk cX12_init 258 1 259 := Or.inl ⟨1, by decide +kernel⟩
theorem d12_init_259 : jd cX12_init 259 (.iastore) 1 260 := by decide +kernel
theorem d12_init_260 : jd cX12_init 260 (.dup) 1 261 := by decide +kernel
theorem d12_init_261 : jdk cX12_init 261 3 262 := Or.inl ⟨3, by decide +kernel⟩
theorem d12_init_262 : jdk cX12_init 262 1 263 := Or.inl ⟨1, by decide +kernel⟩
theorem d12_init_263 : jd cX12_init 263 (.iastore) 1 264 := by decide +kernel
theorem d12_init_264 : jd cX12_init 264 (.dup) 1 265 := by decide +kernel
theorem d12_init_265 : jdk cX12_init 265 4 266 := Or.inl ⟨4, by decide +kernel⟩
theorem d12_init_266 : jdk cX12_init 266 1 267 := Or.inl ⟨1, by decide +kernel⟩
theorem d12_init_267 : jd cX12_init 267 (.iastore) 1 268 := by decide +kernel
theorem d12_init_268 : jd cX12_init 268 (.dup) 1 269 := by decide +kernel
theorem d12_init_269 : jdk cX12_init 269 5 270 := Or.inl ⟨5, by decide +kernel⟩
theorem d12_init_270 : jdk cX12_init 270 1 271 := Or.inl ⟨1, by decide +kernel⟩
theorem d12_init_271 : jd cX12_init 271 (.iastore) 1 272 := by decide +kernel
theorem d12_init_272 : jd cX12_init 272 (.dup) 1 273 := by decide +kernel
theorem d12_init_273 : jdk cX12_init 273 6 275 := Or.inr (Or.inl ⟨6, by decide +kernel⟩)
theorem d12_init_275 : jdk cX12_init 275 1 276 := Or.inl ⟨1, by decide +kernel⟩
theorem d12_init_276 : jd cX12_init 276 (.iastore) 1 277 := by decide +kernel
theorem d12_init_277 : jd cX12_init 277 (.dup) 1 278 := by decide +kernel
theorem d12_init_278 : jdk cX12_init 278 7 280 := Or.inr (Or.inl ⟨7, by decide +kernel⟩)
theorem d12_init_280 : jdk cX12_init 280 1 281 := Or.inl ⟨1, by decide +kernel⟩
theorem d12_init_281 : jd cX12_init 281 (.iastore) 1 282 := by decide +kernel
theorem d12_init_282 : jd cX12_init 282 (.putfield 97) 3 285 := by decide +kernel
theorem d12_init_285 : jda cX12_init 285 0 286 := Or.inl ⟨0, by decide +kernel⟩
theorem d12_init_286 : jdk cX12_init 286 25920 289 := Or.inr (Or.inr ⟨25920, by decide +kernel⟩)
theorem d12_init_289 : jd cX12_init 289 (.newarray .int) 2 291 := by decide +kernel
theorem d12_init_291 : jd cX12_init 291 (.putfield 100) 3 294 := by decide +kernel
theorem d12_init_294 : jda cX12_init 294 0 295 := Or.inl ⟨0, by decide +kernel⟩
theorem d12_init_295 : jdk cX12_init 295 648 298 := Or.inr (Or.inr ⟨648, by decide +kernel⟩)
theorem d12_init_298 : jd cX12_init 298 (.newarray .int) 2 300 := by decide +kernel
theorem d12_init_300 : jd cX12_init 300 (.putfield 103) 3 303 := by decide +kernel
theorem d12_init_303 : jda cX12_init 303 0 304 := Or.inl ⟨0, by decide +kernel⟩
theorem d12_init_304 : jdk cX12_init 304 2160 307 := Or.inr (Or.inr ⟨2160, by decide +kernel⟩)
theorem d12_init_307 : jd cX12_init 307 (.newarray .int) 2 309 := by decide +kernel
theorem d12_init_309 : jd cX12_init 309 (.putfield 106) 3 312 := by decide +kernel
theorem d12_init_312 : jda cX12_init 312 0 313 := Or.inl ⟨0, by decide +kernel⟩
theorem d12_init_313 : jdk cX12_init 313 54 315 := Or.inr (Or.inl ⟨54, by decide +kernel⟩)
theorem d12_init_315 : jd cX12_init 315 (.newarray .int) 2 317 := by decide +kernel
theorem d12_init_317 : jd cX12_init 317 (.putfield 109) 3 320 := by decide +kernel
theorem d12_init_320 : jda cX12_init 320 0 321 := Or.inl ⟨0, by decide +kernel⟩
theorem d12_init_321 : jdk cX12_init 321 40 323 := Or.inr (Or.inl ⟨40, by decide +kernel⟩)
theorem d12_init_323 : jd cX12_init 323 (.newarray .int) 2 325 := by decide +kernel
theorem d12_init_325 : jd cX12_init 325 (.putfield 112) 3 328 := by decide +kernel
theorem d12_init_328 : jda cX12_init 328 0 329 := Or.inl ⟨0, by decide +kernel⟩
theorem d12_init_329 : jdk cX12_init 329 (-1) 330 := Or.inl ⟨(-1), by decide +kernel⟩
theorem d12_init_330 : jd cX12_init 330 (.putfield 115) 3 333 := by decide +kernel
theorem d12_init_333 : decode cX12_init 333 = .ok (.return_, 1) := by decide +kernel
def fX12_init : Option (Unit) :=
some ()
set_option maxHeartbeats 4000000 in
set_option maxRecDepth 100000 in
theorem kX12_init (l : Launch) (D : va_G) (tc : jTC) (h_  : Nat) : ctC l D tc yX12_init (Cond.code yX12_init cX12_init 1 none :: jtb) ({ frames := 1, cells := 35, slots := 34207, locals := 20 } : Room) [.ref h_] [(h_, .inr (12, (.int 0 :: .null :: .null :: .null :: .int 0 :: .null :: .null :: .null :: .null :: .int 0 :: .null :: .null :: .null :: .int 0 :: .int 0 :: .null :: .null :: .int 0 :: .int 0 :: .null :: .null :: .null :: .null :: .null :: .int 0 :: .int 0 :: .int 0 :: .int 0 :: .int 0 :: .null :: .null :: .null :: .null :: .int 0 :: .null :: .null :: .int 0 :: .int 0 :: .int 0 :: .int 0 :: .null :: .int 0 :: .int 0 :: .null :: .null :: .int 0 :: .null :: .null :: .null :: .null :: .null :: .null :: .null :: .null :: .null :: .int 0 :: [])))] 35 34207 (fX12_init) (fun (o : Unit) w => ∃ q1 q2 q3 q4 q5 q6 q7 q8 q9 q10 q11 q12 q13 q14 q15 q16 q17 q18 q19 q20 q21 q22 q23 q24 q25 q26 q27 q28 q29 q30 q31 q32 q33 q34 q35, w = ((h_, .inr (12, (.int 0 :: .ref q1 :: .ref q2 :: .ref q3 :: .int 0 :: .ref q4 :: .ref q5 :: .ref q6 :: .ref q7 :: .int 0 :: .ref q8 :: .ref q9 :: .ref q10 :: .int 0 :: .int 0 :: .ref q11 :: .ref q12 :: .int 0 :: .int 0 :: .ref q13 :: .ref q14 :: .ref q15 :: .ref q16 :: .ref q17 :: .int 0 :: .int 0 :: .int 0 :: .int 0 :: .int 0 :: .ref q18 :: .ref q19 :: .ref q20 :: .ref q21 :: .int 0 :: .ref q22 :: .ref q23 :: .int 0 :: .int 0 :: .int 0 :: .int 0 :: .ref q24 :: .int 0 :: .int 0 :: .ref q25 :: .ref q26 :: .int 0 :: .ref q27 :: .ref q28 :: .ref q29 :: .ref q30 :: .ref q31 :: .ref q32 :: .ref q33 :: .ref q34 :: .ref q35 :: .int (-1) :: []))) :: (q1, .inl (tc.1, 24, .inl (fun _ => 0))) :: (q2, .inl (tc.1, 24, .inl (fun _ => 0))) :: (q3, .inl (tc.1, 120, .inl (fun _ => 0))) :: (q4, .inl (tc.1, 10, .inl (fun _ => 0))) :: (q5, .inl (tc.1, 240, .inl (fun _ => 0))) :: (q6, .inl (tc.1, 240, .inl (fun _ => 0))) :: (q7, .inl (tc.1, 1200, .inl (fun _ => 0))) :: (q8, .inl (tc.1, 3, .inl (fun _ => 0))) :: (q9, .inl (tc.1, 3, .inl (fun _ => 0))) :: (q10, .inl (tc.1, 5, .inl (fun _ => 0))) :: (q11, .inl (tc.1, 8, .inl (fun _ => 0))) :: (q12, .inl (tc.1, 8, .inl (fun _ => 0))) :: (q13, .inl (tc.1, 8, .inl (fun _ => 0))) :: (q14, .inl (tc.1, 8, .inl (fun _ => 0))) :: (q15, .inl (tc.1, 1280, .inl (fun _ => 0))) :: (q16, .inl (tc.1, 32, .inl (fun _ => 0))) :: (q17, .inl (tc.1, 40, .inl (fun _ => 0))) :: (q18, .inl (tc.1, 120, .inl (fun _ => 0))) :: (q19, .inl (tc.1, 24, .inl (fun _ => 0))) :: (q20, .inl (tc.1, 8, .inl (fun _ => 0))) :: (q21, .inl (tc.1, 40, .inl (fun _ => 0))) :: (q22, .inl (tc.1, 66, .inl (fun _ => 0))) :: (q23, .inl (tc.1, 66, .inl (fun _ => 0))) :: (q24, .inl (tc.1, 300, .inl (fun _ => 0))) :: (q25, .inl (tc.1, 300, .inl (fun _ => 0))) :: (q26, .inl (tc.1, 300, .inl (fun _ => 0))) :: (q27, .inl (tc.1, 300, .inl (fun _ => 0))) :: (q28, .inl (tc.1, 300, .inl (fun _ => 0))) :: (q29, .inl (tc.1, 300, .inl (fun _ => 0))) :: (q30, .inl (tc.1, 8, .inl (upd (upd (upd (upd (upd (upd (upd (upd (fun _ => 0) 0 1) 1 1) 2 1) 3 1) 4 1) 5 1) 6 1) 7 1))) :: (q31, .inl (tc.1, 25920, .inl (fun _ => 0))) :: (q32, .inl (tc.1, 648, .inl (fun _ => 0))) :: (q33, .inl (tc.1, 2160, .inl (fun _ => 0))) :: (q34, .inl (tc.1, 54, .inl (fun _ => 0))) :: (q35, .inl (tc.1, 40, .inl (fun _ => 0))) :: [])) := by
  refine ctC_of (lv0 := [(0, .ref h_)]) (by decide +kernel) rfl (Nat.le_of_ble_eq_true rfl) rfl (fun X C hin => ?_)
  unfold fX12_init
  refine j_aload C d12_init_0 0 rfl ?_
  refine j_objInit C d12_init_1 ko12_3 lw_obI lw_obC ⟨(Nat.le_of_ble_eq_true rfl), (Nat.le_of_ble_eq_true rfl)⟩ (Nat.le_of_ble_eq_true rfl) ?_
  refine j_aload C d12_init_4 0 rfl ?_
  refine j_const C d12_init_5 ?_
  refine j_newi (N := 24) C (fun q1 => [(h_, .inr (12, (.int 0 :: .null :: .null :: .null :: .int 0 :: .null :: .null :: .null :: .null :: .int 0 :: .null :: .null :: .null :: .int 0 :: .int 0 :: .null :: .null :: .int 0 :: .int 0 :: .null :: .null :: .null :: .null :: .null :: .int 0 :: .int 0 :: .int 0 :: .int 0 :: .int 0 :: .null :: .null :: .null :: .null :: .int 0 :: .null :: .null :: .int 0 :: .int 0 :: .int 0 :: .int 0 :: .null :: .int 0 :: .int 0 :: .null :: .null :: .int 0 :: .null :: .null :: .null :: .null :: .null :: .null :: .null :: .null :: .null :: .int 0 :: []))), (q1, .inl (tc.1, 24, .inl (fun _ => 0)))]) d12_init_7 lw_aI rfl (Nat.le_of_ble_eq_true rfl) ⟨(Nat.le_of_ble_eq_true rfl), (Nat.le_of_ble_eq_true rfl)⟩ (fun _ => rfl) (fun q1 => ?_)
  refine j_putF C hin d12_init_9 fp12_9 0 rfl rfl rfl (Nat.le_of_ble_eq_true rfl) (ws' := [(h_, .inr (12, (.int 0 :: .ref q1 :: .null :: .null :: .int 0 :: .null :: .null :: .null :: .null :: .int 0 :: .null :: .null :: .null :: .int 0 :: .int 0 :: .null :: .null :: .int 0 :: .int 0 :: .null :: .null :: .null :: .null :: .null :: .int 0 :: .int 0 :: .int 0 :: .int 0 :: .int 0 :: .null :: .null :: .null :: .null :: .int 0 :: .null :: .null :: .int 0 :: .int 0 :: .int 0 :: .int 0 :: .null :: .int 0 :: .int 0 :: .null :: .null :: .int 0 :: .null :: .null :: .null :: .null :: .null :: .null :: .null :: .null :: .null :: .int 0 :: []))), (q1, .inl (tc.1, 24, .inl (fun _ => 0)))]) rfl ?_
  refine j_aload C d12_init_12 0 rfl ?_
  refine j_const C d12_init_13 ?_
  refine j_newi (N := 24) C (fun q2 => [(h_, .inr (12, (.int 0 :: .ref q1 :: .null :: .null :: .int 0 :: .null :: .null :: .null :: .null :: .int 0 :: .null :: .null :: .null :: .int 0 :: .int 0 :: .null :: .null :: .int 0 :: .int 0 :: .null :: .null :: .null :: .null :: .null :: .int 0 :: .int 0 :: .int 0 :: .int 0 :: .int 0 :: .null :: .null :: .null :: .null :: .int 0 :: .null :: .null :: .int 0 :: .int 0 :: .int 0 :: .int 0 :: .null :: .int 0 :: .int 0 :: .null :: .null :: .int 0 :: .null :: .null :: .null :: .null :: .null :: .null :: .null :: .null :: .null :: .int 0 :: []))), (q1, .inl (tc.1, 24, .inl (fun _ => 0))), (q2, .inl (tc.1, 24, .inl (fun _ => 0)))]) d12_init_15 lw_aI rfl (Nat.le_of_ble_eq_true rfl) ⟨(Nat.le_of_ble_eq_true rfl), (Nat.le_of_ble_eq_true rfl)⟩ (fun _ => rfl) (fun q2 => ?_)
  refine j_putF C hin d12_init_17 fp12_13 0 rfl rfl rfl (Nat.le_of_ble_eq_true rfl) (ws' := [(h_, .inr (12, (.int 0 :: .ref q1 :: .ref q2 :: .null :: .int 0 :: .null :: .null :: .null :: .null :: .int 0 :: .null :: .null :: .null :: .int 0 :: .int 0 :: .null :: .null :: .int 0 :: .int 0 :: .null :: .null :: .null :: .null :: .null :: .int 0 :: .int 0 :: .int 0 :: .int 0 :: .int 0 :: .null :: .null :: .null :: .null :: .int 0 :: .null :: .null :: .int 0 :: .int 0 :: .int 0 :: .int 0 :: .null :: .int 0 :: .int 0 :: .null :: .null :: .int 0 :: .null :: .null :: .null :: .null :: .null :: .null :: .null :: .null :: .null :: .int 0 :: []))), (q1, .inl (tc.1, 24, .inl (fun _ => 0))), (q2, .inl (tc.1, 24, .inl (fun _ => 0)))]) rfl ?_
  refine j_aload C d12_init_20 0 rfl ?_
  refine j_const C d12_init_21 ?_
  refine j_newi (N := 120) C (fun q3 => [(h_, .inr (12, (.int 0 :: .ref q1 :: .ref q2 :: .null :: .int 0 :: .null :: .null :: .null :: .null :: .int 0 :: .null :: .null :: .null :: .int 0 :: .int 0 :: .null :: .null :: .int 0 :: .int 0 :: .null :: .null :: .null :: .null :: .null :: .int 0 :: .int 0 :: .int 0 :: .int 0 :: .int 0 :: .null :: .null :: .null :: .null :: .int 0 :: .null :: .null :: .int 0 :: .int 0 :: .int 0 :: .int 0 :: .null :: .int 0 :: .int 0 :: .null :: .null :: .int 0 :: .null :: .null :: .null :: .null :: .null :: .null :: .null :: .null :: .null :: .int 0 :: []))), (q1, .inl (tc.1, 24, .inl (fun _ => 0))), (q2, .inl (tc.1, 24, .inl (fun _ => 0))), (q3, .inl (tc.1, 120, .inl (fun _ => 0)))]) d12_init_23 lw_aI rfl (Nat.le_of_ble_eq_true rfl) ⟨(Nat.le_of_ble_eq_true rfl), (Nat.le_of_ble_eq_true rfl)⟩ (fun _ => rfl) (fun q3 => ?_)
  refine j_putF C hin d12_init_25 fp12_16 0 rfl rfl rfl (Nat.le_of_ble_eq_true rfl) (ws' := [(h_, .inr (12, (.int 0 :: .ref q1 :: .ref q2 :: .ref q3 :: .int 0 :: .null :: .null :: .null :: .null :: .int 0 :: .null :: .null :: .null :: .int 0 :: .int 0 :: .null :: .null :: .int 0 :: .int 0 :: .null :: .null :: .null :: .null :: .null :: .int 0 :: .int 0 :: .int 0 :: .int 0 :: .int 0 :: .null :: .null :: .null :: .null :: .int 0 :: .null :: .null :: .int 0 :: .int 0 :: .int 0 :: .int 0 :: .null :: .int 0 :: .int 0 :: .null :: .null :: .int 0 :: .null :: .null :: .null :: .null :: .null :: .null :: .null :: .null :: .null :: .int 0 :: []))), (q1, .inl (tc.1, 24, .inl (fun _ => 0))), (q2, .inl (tc.1, 24, .inl (fun _ => 0))), (q3, .inl (tc.1, 120, .inl (fun _ => 0)))]) rfl ?_
  refine j_aload C d12_init_28 0 rfl ?_
  refine j_const C d12_init_29 ?_
  refine j_newi (N := 10) C (fun q4 => [(h_, .inr (12, (.int 0 :: .ref q1 :: .ref q2 :: .ref q3 :: .int 0 :: .null :: .null :: .null :: .null :: .int 0 :: .null :: .null :: .null :: .int 0 :: .int 0 :: .null :: .null :: .int 0 :: .int 0 :: .null :: .null :: .null :: .null :: .null :: .int 0 :: .int 0 :: .int 0 :: .int 0 :: .int 0 :: .null :: .null :: .null :: .null :: .int 0 :: .null :: .null :: .int 0 :: .int 0 :: .int 0 :: .int 0 :: .null :: .int 0 :: .int 0 :: .null :: .null :: .int 0 :: .null :: .null :: .null :: .null :: .null :: .null :: .null :: .null :: .null :: .int 0 :: []))), (q1, .inl (tc.1, 24, .inl (fun _ => 0))), (q2, .inl (tc.1, 24, .inl (fun _ => 0))), (q3, .inl (tc.1, 120, .inl (fun _ => 0))), (q4, .inl (tc.1, 10, .inl (fun _ => 0)))]) d12_init_31 lw_aI rfl (Nat.le_of_ble_eq_true rfl) ⟨(Nat.le_of_ble_eq_true rfl), (Nat.le_of_ble_eq_true rfl)⟩ (fun _ => rfl) (fun q4 => ?_)
  refine j_putF C hin d12_init_33 fp12_19 0 rfl rfl rfl (Nat.le_of_ble_eq_true rfl) (ws' := [(h_, .inr (12, (.int 0 :: .ref q1 :: .ref q2 :: .ref q3 :: .int 0 :: .ref q4 :: .null :: .null :: .null :: .int 0 :: .null :: .null :: .null :: .int 0 :: .int 0 :: .null :: .null :: .int 0 :: .int 0 :: .null :: .null :: .null :: .null :: .null :: .int 0 :: .int 0 :: .int 0 :: .int 0 :: .int 0 :: .null :: .null :: .null :: .null :: .int 0 :: .null :: .null :: .int 0 :: .int 0 :: .int 0 :: .int 0 :: .null :: .int 0 :: .int 0 :: .null :: .null :: .int 0 :: .null :: .null :: .null :: .null :: .null :: .null :: .null :: .null :: .null :: .int 0 :: []))), (q1, .inl (tc.1, 24, .inl (fun _ => 0))), (q2, .inl (tc.1, 24, .inl (fun _ => 0))), (q3, .inl (tc.1, 120, .inl (fun _ => 0))), (q4, .inl (tc.1, 10, .inl (fun _ => 0)))]) rfl ?_
  refine j_aload C d12_init_36 0 rfl ?_
  refine j_const C d12_init_37 ?_
  refine j_newi (N := 240) C (fun q5 => [(h_, .inr (12, (.int 0 :: .ref q1 :: .ref q2 :: .ref q3 :: .int 0 :: .ref q4 :: .null :: .null :: .null :: .int 0 :: .null :: .null :: .null :: .int 0 :: .int 0 :: .null :: .null :: .int 0 :: .int 0 :: .null :: .null :: .null :: .null :: .null :: .int 0 :: .int 0 :: .int 0 :: .int 0 :: .int 0 :: .null :: .null :: .null :: .null :: .int 0 :: .null :: .null :: .int 0 :: .int 0 :: .int 0 :: .int 0 :: .null :: .int 0 :: .int 0 :: .null :: .null :: .int 0 :: .null :: .null :: .null :: .null :: .null :: .null :: .null :: .null :: .null :: .int 0 :: []))), (q1, .inl (tc.1, 24, .inl (fun _ => 0))), (q2, .inl (tc.1, 24, .inl (fun _ => 0))), (q3, .inl (tc.1, 120, .inl (fun _ => 0))), (q4, .inl (tc.1, 10, .inl (fun _ => 0))), (q5, .inl (tc.1, 240, .inl (fun _ => 0)))]) d12_init_40 lw_aI rfl (Nat.le_of_ble_eq_true rfl) ⟨(Nat.le_of_ble_eq_true rfl), (Nat.le_of_ble_eq_true rfl)⟩ (fun _ => rfl) (fun q5 => ?_)
  refine j_putF C hin d12_init_42 fp12_22 0 rfl rfl rfl (Nat.le_of_ble_eq_true rfl) (ws' := [(h_, .inr (12, (.int 0 :: .ref q1 :: .ref q2 :: .ref q3 :: .int 0 :: .ref q4 :: .ref q5 :: .null :: .null :: .int 0 :: .null :: .null :: .null :: .int 0 :: .int 0 :: .null :: .null :: .int 0 :: .int 0 :: .null :: .null :: .null :: .null :: .null :: .int 0 :: .int 0 :: .int 0 :: .int 0 :: .int 0 :: .null :: .null :: .null :: .null :: .int 0 :: .null :: .null :: .int 0 :: .int 0 :: .int 0 :: .int 0 :: .null :: .int 0 :: .int 0 :: .null :: .null :: .int 0 :: .null :: .null :: .null :: .null :: .null :: .null :: .null :: .null :: .null :: .int 0 :: []))), (q1, .inl (tc.1, 24, .inl (fun _ => 0))), (q2, .inl (tc.1, 24, .inl (fun _ => 0))), (q3, .inl (tc.1, 120, .inl (fun _ => 0))), (q4, .inl (tc.1, 10, .inl (fun _ => 0))), (q5, .inl (tc.1, 240, .inl (fun _ => 0)))]) rfl ?_
  refine j_aload C d12_init_45 0 rfl ?_
  refine j_const C d12_init_46 ?_
  refine j_newi (N := 240) C (fun q6 => [(h_, .inr (12, (.int 0 :: .ref q1 :: .ref q2 :: .ref q3 :: .int 0 :: .ref q4 :: .ref q5 :: .null :: .null :: .int 0 :: .null :: .null :: .null :: .int 0 :: .int 0 :: .null :: .null :: .int 0 :: .int 0 :: .null :: .null :: .null :: .null :: .null :: .int 0 :: .int 0 :: .int 0 :: .int 0 :: .int 0 :: .null :: .null :: .null :: .null :: .int 0 :: .null :: .null :: .int 0 :: .int 0 :: .int 0 :: .int 0 :: .null :: .int 0 :: .int 0 :: .null :: .null :: .int 0 :: .null :: .null :: .null :: .null :: .null :: .null :: .null :: .null :: .null :: .int 0 :: []))), (q1, .inl (tc.1, 24, .inl (fun _ => 0))), (q2, .inl (tc.1, 24, .inl (fun _ => 0))), (q3, .inl (tc.1, 120, .inl (fun _ => 0))), (q4, .inl (tc.1, 10, .inl (fun _ => 0))), (q5, .inl (tc.1, 240, .inl (fun _ => 0))), (q6, .inl (tc.1, 240, .inl (fun _ => 0)))]) d12_init_49 lw_aI rfl (Nat.le_of_ble_eq_true rfl) ⟨(Nat.le_of_ble_eq_true rfl), (Nat.le_of_ble_eq_true rfl)⟩ (fun _ => rfl) (fun q6 => ?_)
  refine j_putF C hin d12_init_51 fp12_25 0 rfl rfl rfl (Nat.le_of_ble_eq_true rfl) (ws' := [(h_, .inr (12, (.int 0 :: .ref q1 :: .ref q2 :: .ref q3 :: .int 0 :: .ref q4 :: .ref q5 :: .ref q6 :: .null :: .int 0 :: .null :: .null :: .null :: .int 0 :: .int 0 :: .null :: .null :: .int 0 :: .int 0 :: .null :: .null :: .null :: .null :: .null :: .int 0 :: .int 0 :: .int 0 :: .int 0 :: .int 0 :: .null :: .null :: .null :: .null :: .int 0 :: .null :: .null :: .int 0 :: .int 0 :: .int 0 :: .int 0 :: .null :: .int 0 :: .int 0 :: .null :: .null :: .int 0 :: .null :: .null :: .null :: .null :: .null :: .null :: .null :: .null :: .null :: .int 0 :: []))), (q1, .inl (tc.1, 24, .inl (fun _ => 0))), (q2, .inl (tc.1, 24, .inl (fun _ => 0))), (q3, .inl (tc.1, 120, .inl (fun _ => 0))), (q4, .inl (tc.1, 10, .inl (fun _ => 0))), (q5, .inl (tc.1, 240, .inl (fun _ => 0))), (q6, .inl (tc.1, 240, .inl (fun _ => 0)))]) rfl ?_
  refine j_aload C d12_init_54 0 rfl ?_
  refine j_const C d12_init_55 ?_
  refine j_newi (N := 1200) C (fun q7 => [(h_, .inr (12, (.int 0 :: .ref q1 :: .ref q2 :: .ref q3 :: .int 0 :: .ref q4 :: .ref q5 :: .ref q6 :: .null :: .int 0 :: .null :: .null :: .null :: .int 0 :: .int 0 :: .null :: .null :: .int 0 :: .int 0 :: .null :: .null :: .null :: .null :: .null :: .int 0 :: .int 0 :: .int 0 :: .int 0 :: .int 0 :: .null :: .null :: .null :: .null :: .int 0 :: .null :: .null :: .int 0 :: .int 0 :: .int 0 :: .int 0 :: .null :: .int 0 :: .int 0 :: .null :: .null :: .int 0 :: .null :: .null :: .null :: .null :: .null :: .null :: .null :: .null :: .null :: .int 0 :: []))), (q1, .inl (tc.1, 24, .inl (fun _ => 0))), (q2, .inl (tc.1, 24, .inl (fun _ => 0))), (q3, .inl (tc.1, 120, .inl (fun _ => 0))), (q4, .inl (tc.1, 10, .inl (fun _ => 0))), (q5, .inl (tc.1, 240, .inl (fun _ => 0))), (q6, .inl (tc.1, 240, .inl (fun _ => 0))), (q7, .inl (tc.1, 1200, .inl (fun _ => 0)))]) d12_init_58 lw_aI rfl (Nat.le_of_ble_eq_true rfl) ⟨(Nat.le_of_ble_eq_true rfl), (Nat.le_of_ble_eq_true rfl)⟩ (fun _ => rfl) (fun q7 => ?_)
  refine j_putF C hin d12_init_60 fp12_28 0 rfl rfl rfl (Nat.le_of_ble_eq_true rfl) (ws' := [(h_, .inr (12, (.int 0 :: .ref q1 :: .ref q2 :: .ref q3 :: .int 0 :: .ref q4 :: .ref q5 :: .ref q6 :: .ref q7 :: .int 0 :: .null :: .null :: .null :: .int 0 :: .int 0 :: .null :: .null :: .int 0 :: .int 0 :: .null :: .null :: .null :: .null :: .null :: .int 0 :: .int 0 :: .int 0 :: .int 0 :: .int 0 :: .null :: .null :: .null :: .null :: .int 0 :: .null :: .null :: .int 0 :: .int 0 :: .int 0 :: .int 0 :: .null :: .int 0 :: .int 0 :: .null :: .null :: .int 0 :: .null :: .null :: .null :: .null :: .null :: .null :: .null :: .null :: .null :: .int 0 :: []))), (q1, .inl (tc.1, 24, .inl (fun _ => 0))), (q2, .inl (tc.1, 24, .inl (fun _ => 0))), (q3, .inl (tc.1, 120, .inl (fun _ => 0))), (q4, .inl (tc.1, 10, .inl (fun _ => 0))), (q5, .inl (tc.1, 240, .inl (fun _ => 0))), (q6, .inl (tc.1, 240, .inl (fun _ => 0))), (q7, .inl (tc.1, 1200, .inl (fun _ => 0)))]) rfl ?_
  refine j_aload C d12_init_63 0 rfl ?_
  refine j_const C d12_init_64 ?_
  refine j_newi (N := 3) C (fun q8 => [(h_, .inr (12, (.int 0 :: .ref q1 :: .ref q2 :: .ref q3 :: .int 0 :: .ref q4 :: .ref q5 :: .ref q6 :: .ref q7 :: .int 0 :: .null :: .null :: .null :: .int 0 :: .int 0 :: .null :: .null :: .int 0 :: .int 0 :: .null :: .null :: .null :: .null :: .null :: .int 0 :: .int 0 :: .int 0 :: .int 0 :: .int 0 :: .null :: .null :: .null :: .null :: .int 0 :: .null :: .null :: .int 0 :: .int 0 :: .int 0 :: .int 0 :: .null :: .int 0 :: .int 0 :: .null :: .null :: .int 0 :: .null :: .null :: .null :: .null :: .null :: .null :: .null :: .null :: .null :: .int 0 :: []))), (q1, .inl (tc.1, 24, .inl (fun _ => 0))), (q2, .inl (tc.1, 24, .inl (fun _ => 0))), (q3, .inl (tc.1, 120, .inl (fun _ => 0))), (q4, .inl (tc.1, 10, .inl (fun _ => 0))), (q5, .inl (tc.1, 240, .inl (fun _ => 0))), (q6, .inl (tc.1, 240, .inl (fun _ => 0))), (q7, .inl (tc.1, 1200, .inl (fun _ => 0))), (q8, .inl (tc.1, 3, .inl (fun _ => 0)))]) d12_init_65 lw_aI rfl (Nat.le_of_ble_eq_true rfl) ⟨(Nat.le_of_ble_eq_true rfl), (Nat.le_of_ble_eq_true rfl)⟩ (fun _ => rfl) (fun q8 => ?_)
  refine j_putF C hin d12_init_67 fp12_31 0 rfl rfl rfl (Nat.le_of_ble_eq_true rfl) (ws' := [(h_, .inr (12, (.int 0 :: .ref q1 :: .ref q2 :: .ref q3 :: .int 0 :: .ref q4 :: .ref q5 :: .ref q6 :: .ref q7 :: .int 0 :: .ref q8 :: .null :: .null :: .int 0 :: .int 0 :: .null :: .null :: .int 0 :: .int 0 :: .null :: .null :: .null :: .null :: .null :: .int 0 :: .int 0 :: .int 0 :: .int 0 :: .int 0 :: .null :: .null :: .null :: .null :: .int 0 :: .null :: .null :: .int 0 :: .int 0 :: .int 0 :: .int 0 :: .null :: .int 0 :: .int 0 :: .null :: .null :: .int 0 :: .null :: .null :: .null :: .null :: .null :: .null :: .null :: .null :: .null :: .int 0 :: []))), (q1, .inl (tc.1, 24, .inl (fun _ => 0))), (q2, .inl (tc.1, 24, .inl (fun _ => 0))), (q3, .inl (tc.1, 120, .inl (fun _ => 0))), (q4, .inl (tc.1, 10, .inl (fun _ => 0))), (q5, .inl (tc.1, 240, .inl (fun _ => 0))), (q6, .inl (tc.1, 240, .inl (fun _ => 0))), (q7, .inl (tc.1, 1200, .inl (fun _ => 0))), (q8, .inl (tc.1, 3, .inl (fun _ => 0)))]) rfl ?_
  refine j_aload C d12_init_70 0 rfl ?_
  refine j_const C d12_init_71 ?_
  refine j_newi (N := 3) C (fun q9 => [(h_, .inr (12, (.int 0 :: .ref q1 :: .ref q2 :: .ref q3 :: .int 0 :: .ref q4 :: .ref q5 :: .ref q6 :: .ref q7 :: .int 0 :: .ref q8 :: .null :: .null :: .int 0 :: .int 0 :: .null :: .null :: .int 0 :: .int 0 :: .null :: .null :: .null :: .null :: .null :: .int 0 :: .int 0 :: .int 0 :: .int 0 :: .int 0 :: .null :: .null :: .null :: .null :: .int 0 :: .null :: .null :: .int 0 :: .int 0 :: .int 0 :: .int 0 :: .null :: .int 0 :: .int 0 :: .null :: .null :: .int 0 :: .null :: .null :: .null :: .null :: .null :: .null :: .null :: .null :: .null :: .int 0 :: []))), (q1, .inl (tc.1, 24, .inl (fun _ => 0))), (q2, .inl (tc.1, 24, .inl (fun _ => 0))), (q3, .inl (tc.1, 120, .inl (fun _ => 0))), (q4, .inl (tc.1, 10, .inl (fun _ => 0))), (q5, .inl (tc.1, 240, .inl (fun _ => 0))), (q6, .inl (tc.1, 240, .inl (fun _ => 0))), (q7, .inl (tc.1, 1200, .inl (fun _ => 0))), (q8, .inl (tc.1, 3, .inl (fun _ => 0))), (q9, .inl (tc.1, 3, .inl (fun _ => 0)))]) d12_init_72 lw_aI rfl (Nat.le_of_ble_eq_true rfl) ⟨(Nat.le_of_ble_eq_true rfl), (Nat.le_of_ble_eq_true rfl)⟩ (fun _ => rfl) (fun q9 => ?_)
  refine j_putF C hin d12_init_74 fp12_34 0 rfl rfl rfl (Nat.le_of_ble_eq_true rfl) (ws' := [(h_, .inr (12, (.int 0 :: .ref q1 :: .ref q2 :: .ref q3 :: .int 0 :: .ref q4 :: .ref q5 :: .ref q6 :: .ref q7 :: .int 0 :: .ref q8 :: .ref q9 :: .null :: .int 0 :: .int 0 :: .null :: .null :: .int 0 :: .int 0 :: .null :: .null :: .null :: .null :: .null :: .int 0 :: .int 0 :: .int 0 :: .int 0 :: .int 0 :: .null :: .null :: .null :: .null :: .int 0 :: .null :: .null :: .int 0 :: .int 0 :: .int 0 :: .int 0 :: .null :: .int 0 :: .int 0 :: .null :: .null :: .int 0 :: .null :: .null :: .null :: .null :: .null :: .null :: .null :: .null :: .null :: .int 0 :: []))), (q1, .inl (tc.1, 24, .inl (fun _ => 0))), (q2, .inl (tc.1, 24, .inl (fun _ => 0))), (q3, .inl (tc.1, 120, .inl (fun _ => 0))), (q4, .inl (tc.1, 10, .inl (fun _ => 0))), (q5, .inl (tc.1, 240, .inl (fun _ => 0))), (q6, .inl (tc.1, 240, .inl (fun _ => 0))), (q7, .inl (tc.1, 1200, .inl (fun _ => 0))), (q8, .inl (tc.1, 3, .inl (fun _ => 0))), (q9, .inl (tc.1, 3, .inl (fun _ => 0)))]) rfl ?_
  refine j_aload C d12_init_77 0 rfl ?_
  refine j_const C d12_init_78 ?_
  refine j_newi (N := 5) C (fun q10 => [(h_, .inr (12, (.int 0 :: .ref q1 :: .ref q2 :: .ref q3 :: .int 0 :: .ref q4 :: .ref q5 :: .ref q6 :: .ref q7 :: .int 0 :: .ref q8 :: .ref q9 :: .null :: .int 0 :: .int 0 :: .null :: .null :: .int 0 :: .int 0 :: .null :: .null :: .null :: .null :: .null :: .int 0 :: .int 0 :: .int 0 :: .int 0 :: .int 0 :: .null :: .null :: .null :: .null :: .int 0 :: .null :: .null :: .int 0 :: .int 0 :: .int 0 :: .int 0 :: .null :: .int 0 :: .int 0 :: .null :: .null :: .int 0 :: .null :: .null :: .null :: .null :: .null :: .null :: .null :: .null :: .null :: .int 0 :: []))), (q1, .inl (tc.1, 24, .inl (fun _ => 0))), (q2, .inl (tc.1, 24, .inl (fun _ => 0))), (q3, .inl (tc.1, 120, .inl (fun _ => 0))), (q4, .inl (tc.1, 10, .inl (fun _ => 0))), (q5, .inl (tc.1, 240, .inl (fun _ => 0))), (q6, .inl (tc.1, 240, .inl (fun _ => 0))), (q7, .inl (tc.1, 1200, .inl (fun _ => 0))), (q8, .inl (tc.1, 3, .inl (fun _ => 0))), (q9, .inl (tc.1, 3, .inl (fun _ => 0))), (q10, .inl (tc.1, 5, .inl (fun _ => 0)))]) d12_init_79 lw_aI rfl (Nat.le_of_ble_eq_true rfl) ⟨(Nat.le_of_ble_eq_true rfl), (Nat.le_of_ble_eq_true rfl)⟩ (fun _ => rfl) (fun q10 => ?_)
  refine j_putF C hin d12_init_81 fp12_37 0 rfl rfl rfl (Nat.le_of_ble_eq_true rfl) (ws' := [(h_, .inr (12, (.int 0 :: .ref q1 :: .ref q2 :: .ref q3 :: .int 0 :: .ref q4 :: .ref q5 :: .ref q6 :: .ref q7 :: .int 0 :: .ref q8 :: .ref q9 :: .ref q10 :: .int 0 :: .int 0 :: .null :: .null :: .int 0 :: .int 0 :: .null :: .null :: .null :: .null :: .null :: .int 0 :: .int 0 :: .int 0 :: .int 0 :: .int 0 :: .null :: .null :: .null :: .null :: .int 0 :: .null :: .null :: .int 0 :: .int 0 :: .int 0 :: .int 0 :: .null :: .int 0 :: .int 0 :: .null :: .null :: .int 0 :: .null :: .null :: .null :: .null :: .null :: .null :: .null :: .null :: .null :: .int 0 :: []))), (q1, .inl (tc.1, 24, .inl (fun _ => 0))), (q2, .inl (tc.1, 24, .inl (fun _ => 0))), (q3, .inl (tc.1, 120, .inl (fun _ => 0))), (q4, .inl (tc.1, 10, .inl (fun _ => 0))), (q5, .inl (tc.1, 240, .inl (fun _ => 0))), (q6, .inl (tc.1, 240, .inl (fun _ => 0))), (q7, .inl (tc.1, 1200, .inl (fun _ => 0))), (q8, .inl (tc.1, 3, .inl (fun _ => 0))), (q9, .inl (tc.1, 3, .inl (fun _ => 0))), (q10, .inl (tc.1, 5, .inl (fun _ => 0)))]) rfl ?_
  refine j_aload C d12_init_84 0 rfl ?_
  refine j_const C d12_init_85 ?_
  refine j_newi (N := 8) C (fun q11 => [(h_, .inr (12, (.int 0 :: .ref q1 :: .ref q2 :: .ref q3 :: .int 0 :: .ref q4 :: .ref q5 :: .ref q6 :: .ref q7 :: .int 0 :: .ref q8 :: .ref q9 :: .ref q10 :: .int 0 :: .int 0 :: .null :: .null :: .int 0 :: .int 0 :: .null :: .null :: .null :: .null :: .null :: .int 0 :: .int 0 :: .int 0 :: .int 0 :: .int 0 :: .null :: .null :: .null :: .null :: .int 0 :: .null :: .null :: .int 0 :: .int 0 :: .int 0 :: .int 0 :: .null :: .int 0 :: .int 0 :: .null :: .null :: .int 0 :: .null :: .null :: .null :: .null :: .null :: .null :: .null :: .null :: .null :: .int 0 :: []))), (q1, .inl (tc.1, 24, .inl (fun _ => 0))), (q2, .inl (tc.1, 24, .inl (fun _ => 0))), (q3, .inl (tc.1, 120, .inl (fun _ => 0))), (q4, .inl (tc.1, 10, .inl (fun _ => 0))), (q5, .inl (tc.1, 240, .inl (fun _ => 0))), (q6, .inl (tc.1, 240, .inl (fun _ => 0))), (q7, .inl (tc.1, 1200, .inl (fun _ => 0))), (q8, .inl (tc.1, 3, .inl (fun _ => 0))), (q9, .inl (tc.1, 3, .inl (fun _ => 0))), (q10, .inl (tc.1, 5, .inl (fun _ => 0))), (q11, .inl (tc.1, 8, .inl (fun _ => 0)))]) d12_init_87 lw_aI rfl (Nat.le_of_ble_eq_true rfl) ⟨(Nat.le_of_ble_eq_true rfl), (Nat.le_of_ble_eq_true rfl)⟩ (fun _ => rfl) (fun q11 => ?_)
  refine j_putF C hin d12_init_89 fp12_40 0 rfl rfl rfl (Nat.le_of_ble_eq_true rfl) (ws' := [(h_, .inr (12, (.int 0 :: .ref q1 :: .ref q2 :: .ref q3 :: .int 0 :: .ref q4 :: .ref q5 :: .ref q6 :: .ref q7 :: .int 0 :: .ref q8 :: .ref q9 :: .ref q10 :: .int 0 :: .int 0 :: .ref q11 :: .null :: .int 0 :: .int 0 :: .null :: .null :: .null :: .null :: .null :: .int 0 :: .int 0 :: .int 0 :: .int 0 :: .int 0 :: .null :: .null :: .null :: .null :: .int 0 :: .null :: .null :: .int 0 :: .int 0 :: .int 0 :: .int 0 :: .null :: .int 0 :: .int 0 :: .null :: .null :: .int 0 :: .null :: .null :: .null :: .null :: .null :: .null :: .null :: .null :: .null :: .int 0 :: []))), (q1, .inl (tc.1, 24, .inl (fun _ => 0))), (q2, .inl (tc.1, 24, .inl (fun _ => 0))), (q3, .inl (tc.1, 120, .inl (fun _ => 0))), (q4, .inl (tc.1, 10, .inl (fun _ => 0))), (q5, .inl (tc.1, 240, .inl (fun _ => 0))), (q6, .inl (tc.1, 240, .inl (fun _ => 0))), (q7, .inl (tc.1, 1200, .inl (fun _ => 0))), (q8, .inl (tc.1, 3, .inl (fun _ => 0))), (q9, .inl (tc.1, 3, .inl (fun _ => 0))), (q10, .inl (tc.1, 5, .inl (fun _ => 0))), (q11, .inl (tc.1, 8, .inl (fun _ => 0)))]) rfl ?_
  refine j_aload C d12_init_92 0 rfl ?_
  refine j_const C d12_init_93 ?_
  refine j_newi (N := 8) C (fun q12 => [(h_, .inr (12, (.int 0 :: .ref q1 :: .ref q2 :: .ref q3 :: .int 0 :: .ref q4 :: .ref q5 :: .ref q6 :: .ref q7 :: .int 0 :: .ref q8 :: .ref q9 :: .ref q10 :: .int 0 :: .int 0 :: .ref q11 :: .null :: .int 0 :: .int 0 :: .null :: .null :: .null :: .null :: .null :: .int 0 :: .int 0 :: .int 0 :: .int 0 :: .int 0 :: .null :: .null :: .null :: .null :: .int 0 :: .null :: .null :: .int 0 :: .int 0 :: .int 0 :: .int 0 :: .null :: .int 0 :: .int 0 :: .null :: .null :: .int 0 :: .null :: .null :: .null :: .null :: .null :: .null :: .null :: .null :: .null :: .int 0 :: []))), (q1, .inl (tc.1, 24, .inl (fun _ => 0))), (q2, .inl (tc.1, 24, .inl (fun _ => 0))), (q3, .inl (tc.1, 120, .inl (fun _ => 0))), (q4, .inl (tc.1, 10, .inl (fun _ => 0))), (q5, .inl (tc.1, 240, .inl (fun _ => 0))), (q6, .inl (tc.1, 240, .inl (fun _ => 0))), (q7, .inl (tc.1, 1200, .inl (fun _ => 0))), (q8, .inl (tc.1, 3, .inl (fun _ => 0))), (q9, .inl (tc.1, 3, .inl (fun _ => 0))), (q10, .inl (tc.1, 5, .inl (fun _ => 0))), (q11, .inl (tc.1, 8, .inl (fun _ => 0))), (q12, .inl (tc.1, 8, .inl (fun _ => 0)))]) d12_init_95 lw_aI rfl (Nat.le_of_ble_eq_true rfl) ⟨(Nat.le_of_ble_eq_true rfl), (Nat.le_of_ble_eq_true rfl)⟩ (fun _ => rfl) (fun q12 => ?_)
  refine j_putF C hin d12_init_97 fp12_43 0 rfl rfl rfl (Nat.le_of_ble_eq_true rfl) (ws' := [(h_, .inr (12, (.int 0 :: .ref q1 :: .ref q2 :: .ref q3 :: .int 0 :: .ref q4 :: .ref q5 :: .ref q6 :: .ref q7 :: .int 0 :: .ref q8 :: .ref q9 :: .ref q10 :: .int 0 :: .int 0 :: .ref q11 :: .ref q12 :: .int 0 :: .int 0 :: .null :: .null :: .null :: .null :: .null :: .int 0 :: .int 0 :: .int 0 :: .int 0 :: .int 0 :: .null :: .null :: .null :: .null :: .int 0 :: .null :: .null :: .int 0 :: .int 0 :: .int 0 :: .int 0 :: .null :: .int 0 :: .int 0 :: .null :: .null :: .int 0 :: .null :: .null :: .null :: .null :: .null :: .null :: .null :: .null :: .null :: .int 0 :: []))), (q1, .inl (tc.1, 24, .inl (fun _ => 0))), (q2, .inl (tc.1, 24, .inl (fun _ => 0))), (q3, .inl (tc.1, 120, .inl (fun _ => 0))), (q4, .inl (tc.1, 10, .inl (fun _ => 0))), (q5, .inl (tc.1, 240, .inl (fun _ => 0))), (q6, .inl (tc.1, 240, .inl (fun _ => 0))), (q7, .inl (tc.1, 1200, .inl (fun _ => 0))), (q8, .inl (tc.1, 3, .inl (fun _ => 0))), (q9, .inl (tc.1, 3, .inl (fun _ => 0))), (q10, .inl (tc.1, 5, .inl (fun _ => 0))), (q11, .inl (tc.1, 8, .inl (fun _ => 0))), (q12, .inl (tc.1, 8, .inl (fun _ => 0)))]) rfl ?_
  refine j_aload C d12_init_100 0 rfl ?_
  refine j_const C d12_init_101 ?_
  refine j_newi (N := 8) C (fun q13 => [(h_, .inr (12, (.int 0 :: .ref q1 :: .ref q2 :: .ref q3 :: .int 0 :: .ref q4 :: .ref q5 :: .ref q6 :: .ref q7 :: .int 0 :: .ref q8 :: .ref q9 :: .ref q10 :: .int 0 :: .int 0 :: .ref q11 :: .ref q12 :: .int 0 :: .int 0 :: .null :: .null :: .null :: .null :: .null :: .int 0 :: .int 0 :: .int 0 :: .int 0 :: .int 0 :: .null :: .null :: .null :: .null :: .int 0 :: .null :: .null :: .int 0 :: .int 0 :: .int 0 :: .int 0 :: .null :: .int 0 :: .int 0 :: .null :: .null :: .int 0 :: .null :: .null :: .null :: .null :: .null :: .null :: .null :: .null :: .null :: .int 0 :: []))), (q1, .inl (tc.1, 24, .inl (fun _ => 0))), (q2, .inl (tc.1, 24, .inl (fun _ => 0))), (q3, .inl (tc.1, 120, .inl (fun _ => 0))), (q4, .inl (tc.1, 10, .inl (fun _ => 0))), (q5, .inl (tc.1, 240, .inl (fun _ => 0))), (q6, .inl (tc.1, 240, .inl (fun _ => 0))), (q7, .inl (tc.1, 1200, .inl (fun _ => 0))), (q8, .inl (tc.1, 3, .inl (fun _ => 0))), (q9, .inl (tc.1, 3, .inl (fun _ => 0))), (q10, .inl (tc.1, 5, .inl (fun _ => 0))), (q11, .inl (tc.1, 8, .inl (fun _ => 0))), (q12, .inl (tc.1, 8, .inl (fun _ => 0))), (q13, .inl (tc.1, 8, .inl (fun _ => 0)))]) d12_init_103 lw_aI rfl (Nat.le_of_ble_eq_true rfl) ⟨(Nat.le_of_ble_eq_true rfl), (Nat.le_of_ble_eq_true rfl)⟩ (fun _ => rfl) (fun q13 => ?_)
  refine j_putF C hin d12_init_105 fp12_46 0 rfl rfl rfl (Nat.le_of_ble_eq_true rfl) (ws' := [(h_, .inr (12, (.int 0 :: .ref q1 :: .ref q2 :: .ref q3 :: .int 0 :: .ref q4 :: .ref q5 :: .ref q6 :: .ref q7 :: .int 0 :: .ref q8 :: .ref q9 :: .ref q10 :: .int 0 :: .int 0 :: .ref q11 :: .ref q12 :: .int 0 :: .int 0 :: .ref q13 :: .null :: .null :: .null :: .null :: .int 0 :: .int 0 :: .int 0 :: .int 0 :: .int 0 :: .null :: .null :: .null :: .null :: .int 0 :: .null :: .null :: .int 0 :: .int 0 :: .int 0 :: .int 0 :: .null :: .int 0 :: .int 0 :: .null :: .null :: .int 0 :: .null :: .null :: .null :: .null :: .null :: .null :: .null :: .null :: .null :: .int 0 :: []))), (q1, .inl (tc.1, 24, .inl (fun _ => 0))), (q2, .inl (tc.1, 24, .inl (fun _ => 0))), (q3, .inl (tc.1, 120, .inl (fun _ => 0))), (q4, .inl (tc.1, 10, .inl (fun _ => 0))), (q5, .inl (tc.1, 240, .inl (fun _ => 0))), (q6, .inl (tc.1, 240, .inl (fun _ => 0))), (q7, .inl (tc.1, 1200, .inl (fun _ => 0))), (q8, .inl (tc.1, 3, .inl (fun _ => 0))), (q9, .inl (tc.1, 3, .inl (fun _ => 0))), (q10, .inl (tc.1, 5, .inl (fun _ => 0))), (q11, .inl (tc.1, 8, .inl (fun _ => 0))), (q12, .inl (tc.1, 8, .inl (fun _ => 0))), (q13, .inl (tc.1, 8, .inl (fun _ => 0)))]) rfl ?_
  refine j_aload C d12_init_108 0 rfl ?_
  refine j_const C d12_init_109 ?_
  refine j_newi (N := 8) C (fun q14 => [(h_, .inr (12, (.int 0 :: .ref q1 :: .ref q2 :: .ref q3 :: .int 0 :: .ref q4 :: .ref q5 :: .ref q6 :: .ref q7 :: .int 0 :: .ref q8 :: .ref q9 :: .ref q10 :: .int 0 :: .int 0 :: .ref q11 :: .ref q12 :: .int 0 :: .int 0 :: .ref q13 :: .null :: .null :: .null :: .null :: .int 0 :: .int 0 :: .int 0 :: .int 0 :: .int 0 :: .null :: .null :: .null :: .null :: .int 0 :: .null :: .null :: .int 0 :: .int 0 :: .int 0 :: .int 0 :: .null :: .int 0 :: .int 0 :: .null :: .null :: .int 0 :: .null :: .null :: .null :: .null :: .null :: .null :: .null :: .null :: .null :: .int 0 :: []))), (q1, .inl (tc.1, 24, .inl (fun _ => 0))), (q2, .inl (tc.1, 24, .inl (fun _ => 0))), (q3, .inl (tc.1, 120, .inl (fun _ => 0))), (q4, .inl (tc.1, 10, .inl (fun _ => 0))), (q5, .inl (tc.1, 240, .inl (fun _ => 0))), (q6, .inl (tc.1, 240, .inl (fun _ => 0))), (q7, .inl (tc.1, 1200, .inl (fun _ => 0))), (q8, .inl (tc.1, 3, .inl (fun _ => 0))), (q9, .inl (tc.1, 3, .inl (fun _ => 0))), (q10, .inl (tc.1, 5, .inl (fun _ => 0))), (q11, .inl (tc.1, 8, .inl (fun _ => 0))), (q12, .inl (tc.1, 8, .inl (fun _ => 0))), (q13, .inl (tc.1, 8, .inl (fun _ => 0))), (q14, .inl (tc.1, 8, .inl (fun _ => 0)))]) d12_init_111 lw_aI rfl (Nat.le_of_ble_eq_true rfl) ⟨(Nat.le_of_ble_eq_true rfl), (Nat.le_of_ble_eq_true rfl)⟩ (fun _ => rfl) (fun q14 => ?_)
  refine j_putF C hin d12_init_113 fp12_49 0 rfl rfl rfl (Nat.le_of_ble_eq_true rfl) (ws' := [(h_, .inr (12, (.int 0 :: .ref q1 :: .ref q2 :: .ref q3 :: .int 0 :: .ref q4 :: .ref q5 :: .ref q6 :: .ref q7 :: .int 0 :: .ref q8 :: .ref q9 :: .ref q10 :: .int 0 :: .int 0 :: .ref q11 :: .ref q12 :: .int 0 :: .int 0 :: .ref q13 :: .ref q14 :: .null :: .null :: .null :: .int 0 :: .int 0 :: .int 0 :: .int 0 :: .int 0 :: .null :: .null :: .null :: .null :: .int 0 :: .null :: .null :: .int 0 :: .int 0 :: .int 0 :: .int 0 :: .null :: .int 0 :: .int 0 :: .null :: .null :: .int 0 :: .null :: .null :: .null :: .null :: .null :: .null :: .null :: .null :: .null :: .int 0 :: []))), (q1, .inl (tc.1, 24, .inl (fun _ => 0))), (q2, .inl (tc.1, 24, .inl (fun _ => 0))), (q3, .inl (tc.1, 120, .inl (fun _ => 0))), (q4, .inl (tc.1, 10, .inl (fun _ => 0))), (q5, .inl (tc.1, 240, .inl (fun _ => 0))), (q6, .inl (tc.1, 240, .inl (fun _ => 0))), (q7, .inl (tc.1, 1200, .inl (fun _ => 0))), (q8, .inl (tc.1, 3, .inl (fun _ => 0))), (q9, .inl (tc.1, 3, .inl (fun _ => 0))), (q10, .inl (tc.1, 5, .inl (fun _ => 0))), (q11, .inl (tc.1, 8, .inl (fun _ => 0))), (q12, .inl (tc.1, 8, .inl (fun _ => 0))), (q13, .inl (tc.1, 8, .inl (fun _ => 0))), (q14, .inl (tc.1, 8, .inl (fun _ => 0)))]) rfl ?_
  refine j_aload C d12_init_116 0 rfl ?_
  refine j_const C d12_init_117 ?_
  refine j_newi (N := 1280) C (fun q15 => [(h_, .inr (12, (.int 0 :: .ref q1 :: .ref q2 :: .ref q3 :: .int 0 :: .ref q4 :: .ref q5 :: .ref q6 :: .ref q7 :: .int 0 :: .ref q8 :: .ref q9 :: .ref q10 :: .int 0 :: .int 0 :: .ref q11 :: .ref q12 :: .int 0 :: .int 0 :: .ref q13 :: .ref q14 :: .null :: .null :: .null :: .int 0 :: .int 0 :: .int 0 :: .int 0 :: .int 0 :: .null :: .null :: .null :: .null :: .int 0 :: .null :: .null :: .int 0 :: .int 0 :: .int 0 :: .int 0 :: .null :: .int 0 :: .int 0 :: .null :: .null :: .int 0 :: .null :: .null :: .null :: .null :: .null :: .null :: .null :: .null :: .null :: .int 0 :: []))), (q1, .inl (tc.1, 24, .inl (fun _ => 0))), (q2, .inl (tc.1, 24, .inl (fun _ => 0))), (q3, .inl (tc.1, 120, .inl (fun _ => 0))), (q4, .inl (tc.1, 10, .inl (fun _ => 0))), (q5, .inl (tc.1, 240, .inl (fun _ => 0))), (q6, .inl (tc.1, 240, .inl (fun _ => 0))), (q7, .inl (tc.1, 1200, .inl (fun _ => 0))), (q8, .inl (tc.1, 3, .inl (fun _ => 0))), (q9, .inl (tc.1, 3, .inl (fun _ => 0))), (q10, .inl (tc.1, 5, .inl (fun _ => 0))), (q11, .inl (tc.1, 8, .inl (fun _ => 0))), (q12, .inl (tc.1, 8, .inl (fun _ => 0))), (q13, .inl (tc.1, 8, .inl (fun _ => 0))), (q14, .inl (tc.1, 8, .inl (fun _ => 0))), (q15, .inl (tc.1, 1280, .inl (fun _ => 0)))]) d12_init_120 lw_aI rfl (Nat.le_of_ble_eq_true rfl) ⟨(Nat.le_of_ble_eq_true rfl), (Nat.le_of_ble_eq_true rfl)⟩ (fun _ => rfl) (fun q15 => ?_)
  refine j_putF C hin d12_init_122 fp12_52 0 rfl rfl rfl (Nat.le_of_ble_eq_true rfl) (ws' := [(h_, .inr (12, (.int 0 :: .ref q1 :: .ref q2 :: .ref q3 :: .int 0 :: .ref q4 :: .ref q5 :: .ref q6 :: .ref q7 :: .int 0 :: .ref q8 :: .ref q9 :: .ref q10 :: .int 0 :: .int 0 :: .ref q11 :: .ref q12 :: .int 0 :: .int 0 :: .ref q13 :: .ref q14 :: .ref q15 :: .null :: .null :: .int 0 :: .int 0 :: .int 0 :: .int 0 :: .int 0 :: .null :: .null :: .null :: .null :: .int 0 :: .null :: .null :: .int 0 :: .int 0 :: .int 0 :: .int 0 :: .null :: .int 0 :: .int 0 :: .null :: .null :: .int 0 :: .null :: .null :: .null :: .null :: .null :: .null :: .null :: .null :: .null :: .int 0 :: []))), (q1, .inl (tc.1, 24, .inl (fun _ => 0))), (q2, .inl (tc.1, 24, .inl (fun _ => 0))), (q3, .inl (tc.1, 120, .inl (fun _ => 0))), (q4, .inl (tc.1, 10, .inl (fun _ => 0))), (q5, .inl (tc.1, 240, .inl (fun _ => 0))), (q6, .inl (tc.1, 240, .inl (fun _ => 0))), (q7, .inl (tc.1, 1200, .inl (fun _ => 0))), (q8, .inl (tc.1, 3, .inl (fun _ => 0))), (q9, .inl (tc.1, 3, .inl (fun _ => 0))), (q10, .inl (tc.1, 5, .inl (fun _ => 0))), (q11, .inl (tc.1, 8, .inl (fun _ => 0))), (q12, .inl (tc.1, 8, .inl (fun _ => 0))), (q13, .inl (tc.1, 8, .inl (fun _ => 0))), (q14, .inl (tc.1, 8, .inl (fun _ => 0))), (q15, .inl (tc.1, 1280, .inl (fun _ => 0)))]) rfl ?_
  refine j_aload C d12_init_125 0 rfl ?_
  refine j_const C d12_init_126 ?_
  refine j_newi (N := 32) C (fun q16 => [(h_, .inr (12, (.int 0 :: .ref q1 :: .ref q2 :: .ref q3 :: .int 0 :: .ref q4 :: .ref q5 :: .ref q6 :: .ref q7 :: .int 0 :: .ref q8 :: .ref q9 :: .ref q10 :: .int 0 :: .int 0 :: .ref q11 :: .ref q12 :: .int 0 :: .int 0 :: .ref q13 :: .ref q14 :: .ref q15 :: .null :: .null :: .int 0 :: .int 0 :: .int 0 :: .int 0 :: .int 0 :: .null :: .null :: .null :: .null :: .int 0 :: .null :: .null :: .int 0 :: .int 0 :: .int 0 :: .int 0 :: .null :: .int 0 :: .int 0 :: .null :: .null :: .int 0 :: .null :: .null :: .null :: .null :: .null :: .null :: .null :: .null :: .null :: .int 0 :: []))), (q1, .inl (tc.1, 24, .inl (fun _ => 0))), (q2, .inl (tc.1, 24, .inl (fun _ => 0))), (q3, .inl (tc.1, 120, .inl (fun _ => 0))), (q4, .inl (tc.1, 10, .inl (fun _ => 0))), (q5, .inl (tc.1, 240, .inl (fun _ => 0))), (q6, .inl (tc.1, 240, .inl (fun _ => 0))), (q7, .inl (tc.1, 1200, .inl (fun _ => 0))), (q8, .inl (tc.1, 3, .inl (fun _ => 0))), (q9, .inl (tc.1, 3, .inl (fun _ => 0))), (q10, .inl (tc.1, 5, .inl (fun _ => 0))), (q11, .inl (tc.1, 8, .inl (fun _ => 0))), (q12, .inl (tc.1, 8, .inl (fun _ => 0))), (q13, .inl (tc.1, 8, .inl (fun _ => 0))), (q14, .inl (tc.1, 8, .inl (fun _ => 0))), (q15, .inl (tc.1, 1280, .inl (fun _ => 0))), (q16, .inl (tc.1, 32, .inl (fun _ => 0)))]) d12_init_128 lw_aI rfl (Nat.le_of_ble_eq_true rfl) ⟨(Nat.le_of_ble_eq_true rfl), (Nat.le_of_ble_eq_true rfl)⟩ (fun _ => rfl) (fun q16 => ?_)
  refine j_putF C hin d12_init_130 fp12_55 0 rfl rfl rfl (Nat.le_of_ble_eq_true rfl) (ws' := [(h_, .inr (12, (.int 0 :: .ref q1 :: .ref q2 :: .ref q3 :: .int 0 :: .ref q4 :: .ref q5 :: .ref q6 :: .ref q7 :: .int 0 :: .ref q8 :: .ref q9 :: .ref q10 :: .int 0 :: .int 0 :: .ref q11 :: .ref q12 :: .int 0 :: .int 0 :: .ref q13 :: .ref q14 :: .ref q15 :: .ref q16 :: .null :: .int 0 :: .int 0 :: .int 0 :: .int 0 :: .int 0 :: .null :: .null :: .null :: .null :: .int 0 :: .null :: .null :: .int 0 :: .int 0 :: .int 0 :: .int 0 :: .null :: .int 0 :: .int 0 :: .null :: .null :: .int 0 :: .null :: .null :: .null :: .null :: .null :: .null :: .null :: .null :: .null :: .int 0 :: []))), (q1, .inl (tc.1, 24, .inl (fun _ => 0))), (q2, .inl (tc.1, 24, .inl (fun _ => 0))), (q3, .inl (tc.1, 120, .inl (fun _ => 0))), (q4, .inl (tc.1, 10, .inl (fun _ => 0))), (q5, .inl (tc.1, 240, .inl (fun _ => 0))), (q6, .inl (tc.1, 240, .inl (fun _ => 0))), (q7, .inl (tc.1, 1200, .inl (fun _ => 0))), (q8, .inl (tc.1, 3, .inl (fun _ => 0))), (q9, .inl (tc.1, 3, .inl (fun _ => 0))), (q10, .inl (tc.1, 5, .inl (fun _ => 0))), (q11, .inl (tc.1, 8, .inl (fun _ => 0))), (q12, .inl (tc.1, 8, .inl (fun _ => 0))), (q13, .inl (tc.1, 8, .inl (fun _ => 0))), (q14, .inl (tc.1, 8, .inl (fun _ => 0))), (q15, .inl (tc.1, 1280, .inl (fun _ => 0))), (q16, .inl (tc.1, 32, .inl (fun _ => 0)))]) rfl ?_
  refine j_aload C d12_init_133 0 rfl ?_
  refine j_const C d12_init_134 ?_
  refine j_newi (N := 40) C (fun q17 => [(h_, .inr (12, (.int 0 :: .ref q1 :: .ref q2 :: .ref q3 :: .int 0 :: .ref q4 :: .ref q5 :: .ref q6 :: .ref q7 :: .int 0 :: .ref q8 :: .ref q9 :: .ref q10 :: .int 0 :: .int 0 :: .ref q11 :: .ref q12 :: .int 0 :: .int 0 :: .ref q13 :: .ref q14 :: .ref q15 :: .ref q16 :: .null :: .int 0 :: .int 0 :: .int 0 :: .int 0 :: .int 0 :: .null :: .null :: .null :: .null :: .int 0 :: .null :: .null :: .int 0 :: .int 0 :: .int 0 :: .int 0 :: .null :: .int 0 :: .int 0 :: .null :: .null :: .int 0 :: .null :: .null :: .null :: .null :: .null :: .null :: .null :: .null :: .null :: .int 0 :: []))), (q1, .inl (tc.1, 24, .inl (fun _ => 0))), (q2, .inl (tc.1, 24, .inl (fun _ => 0))), (q3, .inl (tc.1, 120, .inl (fun _ => 0))), (q4, .inl (tc.1, 10, .inl (fun _ => 0))), (q5, .inl (tc.1, 240, .inl (fun _ => 0))), (q6, .inl (tc.1, 240, .inl (fun _ => 0))), (q7, .inl (tc.1, 1200, .inl (fun _ => 0))), (q8, .inl (tc.1, 3, .inl (fun _ => 0))), (q9, .inl (tc.1, 3, .inl (fun _ => 0))), (q10, .inl (tc.1, 5, .inl (fun _ => 0))), (q11, .inl (tc.1, 8, .inl (fun _ => 0))), (q12, .inl (tc.1, 8, .inl (fun _ => 0))), (q13, .inl (tc.1, 8, .inl (fun _ => 0))), (q14, .inl (tc.1, 8, .inl (fun _ => 0))), (q15, .inl (tc.1, 1280, .inl (fun _ => 0))), (q16, .inl (tc.1, 32, .inl (fun _ => 0))), (q17, .inl (tc.1, 40, .inl (fun _ => 0)))]) d12_init_136 lw_aI rfl (Nat.le_of_ble_eq_true rfl) ⟨(Nat.le_of_ble_eq_true rfl), (Nat.le_of_ble_eq_true rfl)⟩ (fun _ => rfl) (fun q17 => ?_)
  refine j_putF C hin d12_init_138 fp12_58 0 rfl rfl rfl (Nat.le_of_ble_eq_true rfl) (ws' := [(h_, .inr (12, (.int 0 :: .ref q1 :: .ref q2 :: .ref q3 :: .int 0 :: .ref q4 :: .ref q5 :: .ref q6 :: .ref q7 :: .int 0 :: .ref q8 :: .ref q9 :: .ref q10 :: .int 0 :: .int 0 :: .ref q11 :: .ref q12 :: .int 0 :: .int 0 :: .ref q13 :: .ref q14 :: .ref q15 :: .ref q16 :: .ref q17 :: .int 0 :: .int 0 :: .int 0 :: .int 0 :: .int 0 :: .null :: .null :: .null :: .null :: .int 0 :: .null :: .null :: .int 0 :: .int 0 :: .int 0 :: .int 0 :: .null :: .int 0 :: .int 0 :: .null :: .null :: .int 0 :: .null :: .null :: .null :: .null :: .null :: .null :: .null :: .null :: .null :: .int 0 :: []))), (q1, .inl (tc.1, 24, .inl (fun _ => 0))), (q2, .inl (tc.1, 24, .inl (fun _ => 0))), (q3, .inl (tc.1, 120, .inl (fun _ => 0))), (q4, .inl (tc.1, 10, .inl (fun _ => 0))), (q5, .inl (tc.1, 240, .inl (fun _ => 0))), (q6, .inl (tc.1, 240, .inl (fun _ => 0))), (q7, .inl (tc.1, 1200, .inl (fun _ => 0))), (q8, .inl (tc.1, 3, .inl (fun _ => 0))), (q9, .inl (tc.1, 3, .inl (fun _ => 0))), (q10, .inl (tc.1, 5, .inl (fun _ => 0))), (q11, .inl (tc.1, 8, .inl (fun _ => 0))), (q12, .inl (tc.1, 8, .inl (fun _ => 0))), (q13, .inl (tc.1, 8, .inl (fun _ => 0))), (q14, .inl (tc.1, 8, .inl (fun _ => 0))), (q15, .inl (tc.1, 1280, .inl (fun _ => 0))), (q16, .inl (tc.1, 32, .inl (fun _ => 0))), (q17, .inl (tc.1, 40, .inl (fun _ => 0)))]) rfl ?_
  refine j_aload C d12_init_141 0 rfl ?_
  refine j_const C d12_init_142 ?_
  refine j_newi (N := 120) C (fun q18 => [(h_, .inr (12, (.int 0 :: .ref q1 :: .ref q2 :: .ref q3 :: .int 0 :: .ref q4 :: .ref q5 :: .ref q6 :: .ref q7 :: .int 0 :: .ref q8 :: .ref q9 :: .ref q10 :: .int 0 :: .int 0 :: .ref q11 :: .ref q12 :: .int 0 :: .int 0 :: .ref q13 :: .ref q14 :: .ref q15 :: .ref q16 :: .ref q17 :: .int 0 :: .int 0 :: .int 0 :: .int 0 :: .int 0 :: .null :: .null :: .null :: .null :: .int 0 :: .null :: .null :: .int 0 :: .int 0 :: .int 0 :: .int 0 :: .null :: .int 0 :: .int 0 :: .null :: .null :: .int 0 :: .null :: .null :: .null :: .null :: .null :: .null :: .null :: .null :: .null :: .int 0 :: []))), (q1, .inl (tc.1, 24, .inl (fun _ => 0))), (q2, .inl (tc.1, 24, .inl (fun _ => 0))), (q3, .inl (tc.1, 120, .inl (fun _ => 0))), (q4, .inl (tc.1, 10, .inl (fun _ => 0))), (q5, .inl (tc.1, 240, .inl (fun _ => 0))), (q6, .inl (tc.1, 240, .inl (fun _ => 0))), (q7, .inl (tc.1, 1200, .inl (fun _ => 0))), (q8, .inl (tc.1, 3, .inl (fun _ => 0))), (q9, .inl (tc.1, 3, .inl (fun _ => 0))), (q10, .inl (tc.1, 5, .inl (fun _ => 0))), (q11, .inl (tc.1, 8, .inl (fun _ => 0))), (q12, .inl (tc.1, 8, .inl (fun _ => 0))), (q13, .inl (tc.1, 8, .inl (fun _ => 0))), (q14, .inl (tc.1, 8, .inl (fun _ => 0))), (q15, .inl (tc.1, 1280, .inl (fun _ => 0))), (q16, .inl (tc.1, 32, .inl (fun _ => 0))), (q17, .inl (tc.1, 40, .inl (fun _ => 0))), (q18, .inl (tc.1, 120, .inl (fun _ => 0)))]) d12_init_144 lw_aI rfl (Nat.le_of_ble_eq_true rfl) ⟨(Nat.le_of_ble_eq_true rfl), (Nat.le_of_ble_eq_true rfl)⟩ (fun _ => rfl) (fun q18 => ?_)
  refine j_putF C hin d12_init_146 fp12_61 0 rfl rfl rfl (Nat.le_of_ble_eq_true rfl) (ws' := [(h_, .inr (12, (.int 0 :: .ref q1 :: .ref q2 :: .ref q3 :: .int 0 :: .ref q4 :: .ref q5 :: .ref q6 :: .ref q7 :: .int 0 :: .ref q8 :: .ref q9 :: .ref q10 :: .int 0 :: .int 0 :: .ref q11 :: .ref q12 :: .int 0 :: .int 0 :: .ref q13 :: .ref q14 :: .ref q15 :: .ref q16 :: .ref q17 :: .int 0 :: .int 0 :: .int 0 :: .int 0 :: .int 0 :: .ref q18 :: .null :: .null :: .null :: .int 0 :: .null :: .null :: .int 0 :: .int 0 :: .int 0 :: .int 0 :: .null :: .int 0 :: .int 0 :: .null :: .null :: .int 0 :: .null :: .null :: .null :: .null :: .null :: .null :: .null :: .null :: .null :: .int 0 :: []))), (q1, .inl (tc.1, 24, .inl (fun _ => 0))), (q2, .inl (tc.1, 24, .inl (fun _ => 0))), (q3, .inl (tc.1, 120, .inl (fun _ => 0))), (q4, .inl (tc.1, 10, .inl (fun _ => 0))), (q5, .inl (tc.1, 240, .inl (fun _ => 0))), (q6, .inl (tc.1, 240, .inl (fun _ => 0))), (q7, .inl (tc.1, 1200, .inl (fun _ => 0))), (q8, .inl (tc.1, 3, .inl (fun _ => 0))), (q9, .inl (tc.1, 3, .inl (fun _ => 0))), (q10, .inl (tc.1, 5, .inl (fun _ => 0))), (q11, .inl (tc.1, 8, .inl (fun _ => 0))), (q12, .inl (tc.1, 8, .inl (fun _ => 0))), (q13, .inl (tc.1, 8, .inl (fun _ => 0))), (q14, .inl (tc.1, 8, .inl (fun _ => 0))), (q15, .inl (tc.1, 1280, .inl (fun _ => 0))), (q16, .inl (tc.1, 32, .inl (fun _ => 0))), (q17, .inl (tc.1, 40, .inl (fun _ => 0))), (q18, .inl (tc.1, 120, .inl (fun _ => 0)))]) rfl ?_
  refine j_aload C d12_init_149 0 rfl ?_
  refine j_const C d12_init_150 ?_
  refine j_newi (N := 24) C (fun q19 => [(h_, .inr (12, (.int 0 :: .ref q1 :: .ref q2 :: .ref q3 :: .int 0 :: .ref q4 :: .ref q5 :: .ref q6 :: .ref q7 :: .int 0 :: .ref q8 :: .ref q9 :: .ref q10 :: .int 0 :: .int 0 :: .ref q11 :: .ref q12 :: .int 0 :: .int 0 :: .ref q13 :: .ref q14 :: .ref q15 :: .ref q16 :: .ref q17 :: .int 0 :: .int 0 :: .int 0 :: .int 0 :: .int 0 :: .ref q18 :: .null :: .null :: .null :: .int 0 :: .null :: .null :: .int 0 :: .int 0 :: .int 0 :: .int 0 :: .null :: .int 0 :: .int 0 :: .null :: .null :: .int 0 :: .null :: .null :: .null :: .null :: .null :: .null :: .null :: .null :: .null :: .int 0 :: []))), (q1, .inl (tc.1, 24, .inl (fun _ => 0))), (q2, .inl (tc.1, 24, .inl (fun _ => 0))), (q3, .inl (tc.1, 120, .inl (fun _ => 0))), (q4, .inl (tc.1, 10, .inl (fun _ => 0))), (q5, .inl (tc.1, 240, .inl (fun _ => 0))), (q6, .inl (tc.1, 240, .inl (fun _ => 0))), (q7, .inl (tc.1, 1200, .inl (fun _ => 0))), (q8, .inl (tc.1, 3, .inl (fun _ => 0))), (q9, .inl (tc.1, 3, .inl (fun _ => 0))), (q10, .inl (tc.1, 5, .inl (fun _ => 0))), (q11, .inl (tc.1, 8, .inl (fun _ => 0))), (q12, .inl (tc.1, 8, .inl (fun _ => 0))), (q13, .inl (tc.1, 8, .inl (fun _ => 0))), (q14, .inl (tc.1, 8, .inl (fun _ => 0))), (q15, .inl (tc.1, 1280, .inl (fun _ => 0))), (q16, .inl (tc.1, 32, .inl (fun _ => 0))), (q17, .inl (tc.1, 40, .inl (fun _ => 0))), (q18, .inl (tc.1, 120, .inl (fun _ => 0))), (q19, .inl (tc.1, 24, .inl (fun _ => 0)))]) d12_init_152 lw_aI rfl (Nat.le_of_ble_eq_true rfl) ⟨(Nat.le_of_ble_eq_true rfl), (Nat.le_of_ble_eq_true rfl)⟩ (fun _ => rfl) (fun q19 => ?_)
  refine j_putF C hin d12_init_154 fp12_64 0 rfl rfl rfl (Nat.le_of_ble_eq_true rfl) (ws' := [(h_, .inr (12, (.int 0 :: .ref q1 :: .ref q2 :: .ref q3 :: .int 0 :: .ref q4 :: .ref q5 :: .ref q6 :: .ref q7 :: .int 0 :: .ref q8 :: .ref q9 :: .ref q10 :: .int 0 :: .int 0 :: .ref q11 :: .ref q12 :: .int 0 :: .int 0 :: .ref q13 :: .ref q14 :: .ref q15 :: .ref q16 :: .ref q17 :: .int 0 :: .int 0 :: .int 0 :: .int 0 :: .int 0 :: .ref q18 :: .ref q19 :: .null :: .null :: .int 0 :: .null :: .null :: .int 0 :: .int 0 :: .int 0 :: .int 0 :: .null :: .int 0 :: .int 0 :: .null :: .null :: .int 0 :: .null :: .null :: .null :: .null :: .null :: .null :: .null :: .null :: .null :: .int 0 :: []))), (q1, .inl (tc.1, 24, .inl (fun _ => 0))), (q2, .inl (tc.1, 24, .inl (fun _ => 0))), (q3, .inl (tc.1, 120, .inl (fun _ => 0))), (q4, .inl (tc.1, 10, .inl (fun _ => 0))), (q5, .inl (tc.1, 240, .inl (fun _ => 0))), (q6, .inl (tc.1, 240, .inl (fun _ => 0))), (q7, .inl (tc.1, 1200, .inl (fun _ => 0))), (q8, .inl (tc.1, 3, .inl (fun _ => 0))), (q9, .inl (tc.1, 3, .inl (fun _ => 0))), (q10, .inl (tc.1, 5, .inl (fun _ => 0))), (q11, .inl (tc.1, 8, .inl (fun _ => 0))), (q12, .inl (tc.1, 8, .inl (fun _ => 0))), (q13, .inl (tc.1, 8, .inl (fun _ => 0))), (q14, .inl (tc.1, 8, .inl (fun _ => 0))), (q15, .inl (tc.1, 1280, .inl (fun _ => 0))), (q16, .inl (tc.1, 32, .inl (fun _ => 0))), (q17, .inl (tc.1, 40, .inl (fun _ => 0))), (q18, .inl (tc.1, 120, .inl (fun _ => 0))), (q19, .inl (tc.1, 24, .inl (fun _ => 0)))]) rfl ?_
  refine j_aload C d12_init_157 0 rfl ?_
  refine j_const C d12_init_158 ?_
  refine j_newi (N := 8) C (fun q20 => [(h_, .inr (12, (.int 0 :: .ref q1 :: .ref q2 :: .ref q3 :: .int 0 :: .ref q4 :: .ref q5 :: .ref q6 :: .ref q7 :: .int 0 :: .ref q8 :: .ref q9 :: .ref q10 :: .int 0 :: .int 0 :: .ref q11 :: .ref q12 :: .int 0 :: .int 0 :: .ref q13 :: .ref q14 :: .ref q15 :: .ref q16 :: .ref q17 :: .int 0 :: .int 0 :: .int 0 :: .int 0 :: .int 0 :: .ref q18 :: .ref q19 :: .null :: .null :: .int 0 :: .null :: .null :: .int 0 :: .int 0 :: .int 0 :: .int 0 :: .null :: .int 0 :: .int 0 :: .null :: .null :: .int 0 :: .null :: .null :: .null :: .null :: .null :: .null :: .null :: .null :: .null :: .int 0 :: []))), (q1, .inl (tc.1, 24, .inl (fun _ => 0))), (q2, .inl (tc.1, 24, .inl (fun _ => 0))), (q3, .inl (tc.1, 120, .inl (fun _ => 0))), (q4, .inl (tc.1, 10, .inl (fun _ => 0))), (q5, .inl (tc.1, 240, .inl (fun _ => 0))), (q6, .inl (tc.1, 240, .inl (fun _ => 0))), (q7, .inl (tc.1, 1200, .inl (fun _ => 0))), (q8, .inl (tc.1, 3, .inl (fun _ => 0))), (q9, .inl (tc.1, 3, .inl (fun _ => 0))), (q10, .inl (tc.1, 5, .inl (fun _ => 0))), (q11, .inl (tc.1, 8, .inl (fun _ => 0))), (q12, .inl (tc.1, 8, .inl (fun _ => 0))), (q13, .inl (tc.1, 8, .inl (fun _ => 0))), (q14, .inl (tc.1, 8, .inl (fun _ => 0))), (q15, .inl (tc.1, 1280, .inl (fun _ => 0))), (q16, .inl (tc.1, 32, .inl (fun _ => 0))), (q17, .inl (tc.1, 40, .inl (fun _ => 0))), (q18, .inl (tc.1, 120, .inl (fun _ => 0))), (q19, .inl (tc.1, 24, .inl (fun _ => 0))), (q20, .inl (tc.1, 8, .inl (fun _ => 0)))]) d12_init_160 lw_aI rfl (Nat.le_of_ble_eq_true rfl) ⟨(Nat.le_of_ble_eq_true rfl), (Nat.le_of_ble_eq_true rfl)⟩ (fun _ => rfl) (fun q20 => ?_)
  refine j_putF C hin d12_init_162 fp12_67 0 rfl rfl rfl (Nat.le_of_ble_eq_true rfl) (ws' := [(h_, .inr (12, (.int 0 :: .ref q1 :: .ref q2 :: .ref q3 :: .int 0 :: .ref q4 :: .ref q5 :: .ref q6 :: .ref q7 :: .int 0 :: .ref q8 :: .ref q9 :: .ref q10 :: .int 0 :: .int 0 :: .ref q11 :: .ref q12 :: .int 0 :: .int 0 :: .ref q13 :: .ref q14 :: .ref q15 :: .ref q16 :: .ref q17 :: .int 0 :: .int 0 :: .int 0 :: .int 0 :: .int 0 :: .ref q18 :: .ref q19 :: .ref q20 :: .null :: .int 0 :: .null :: .null :: .int 0 :: .int 0 :: .int 0 :: .int 0 :: .null :: .int 0 :: .int 0 :: .null :: .null :: .int 0 :: .null :: .null :: .null :: .null :: .null :: .null :: .null :: .null :: .null :: .int 0 :: []))), (q1, .inl (tc.1, 24, .inl (fun _ => 0))), (q2, .inl (tc.1, 24, .inl (fun _ => 0))), (q3, .inl (tc.1, 120, .inl (fun _ => 0))), (q4, .inl (tc.1, 10, .inl (fun _ => 0))), (q5, .inl (tc.1, 240, .inl (fun _ => 0))), (q6, .inl (tc.1, 240, .inl (fun _ => 0))), (q7, .inl (tc.1, 1200, .inl (fun _ => 0))), (q8, .inl (tc.1, 3, .inl (fun _ => 0))), (q9, .inl (tc.1, 3, .inl (fun _ => 0))), (q10, .inl (tc.1, 5, .inl (fun _ => 0))), (q11, .inl (tc.1, 8, .inl (fun _ => 0))), (q12, .inl (tc.1, 8, .inl (fun _ => 0))), (q13, .inl (tc.1, 8, .inl (fun _ => 0))), (q14, .inl (tc.1, 8, .inl (fun _ => 0))), (q15, .inl (tc.1, 1280, .inl (fun _ => 0))), (q16, .inl (tc.1, 32, .inl (fun _ => 0))), (q17, .inl (tc.1, 40, .inl (fun _ => 0))), (q18, .inl (tc.1, 120, .inl (fun _ => 0))), (q19, .inl (tc.1, 24, .inl (fun _ => 0))), (q20, .inl (tc.1, 8, .inl (fun _ => 0)))]) rfl ?_
  refine j_aload C d12_init_165 0 rfl ?_
  refine j_const C d12_init_166 ?_
  refine j_newi (N := 40) C (fun q21 => [(h_, .inr (12, (.int 0 :: .ref q1 :: .ref q2 :: .ref q3 :: .int 0 :: .ref q4 :: .ref q5 :: .ref q6 :: .ref q7 :: .int 0 :: .ref q8 :: .ref q9 :: .ref q10 :: .int 0 :: .int 0 :: .ref q11 :: .ref q12 :: .int 0 :: .int 0 :: .ref q13 :: .ref q14 :: .ref q15 :: .ref q16 :: .ref q17 :: .int 0 :: .int 0 :: .int 0 :: .int 0 :: .int 0 :: .ref q18 :: .ref q19 :: .ref q20 :: .null :: .int 0 :: .null :: .null :: .int 0 :: .int 0 :: .int 0 :: .int 0 :: .null :: .int 0 :: .int 0 :: .null :: .null :: .int 0 :: .null :: .null :: .null :: .null :: .null :: .null :: .null :: .null :: .null :: .int 0 :: []))), (q1, .inl (tc.1, 24, .inl (fun _ => 0))), (q2, .inl (tc.1, 24, .inl (fun _ => 0))), (q3, .inl (tc.1, 120, .inl (fun _ => 0))), (q4, .inl (tc.1, 10, .inl (fun _ => 0))), (q5, .inl (tc.1, 240, .inl (fun _ => 0))), (q6, .inl (tc.1, 240, .inl (fun _ => 0))), (q7, .inl (tc.1, 1200, .inl (fun _ => 0))), (q8, .inl (tc.1, 3, .inl (fun _ => 0))), (q9, .inl (tc.1, 3, .inl (fun _ => 0))), (q10, .inl (tc.1, 5, .inl (fun _ => 0))), (q11, .inl (tc.1, 8, .inl (fun _ => 0))), (q12, .inl (tc.1, 8, .inl (fun _ => 0))), (q13, .inl (tc.1, 8, .inl (fun _ => 0))), (q14, .inl (tc.1, 8, .inl (fun _ => 0))), (q15, .inl (tc.1, 1280, .inl (fun _ => 0))), (q16, .inl (tc.1, 32, .inl (fun _ => 0))), (q17, .inl (tc.1, 40, .inl (fun _ => 0))), (q18, .inl (tc.1, 120, .inl (fun _ => 0))), (q19, .inl (tc.1, 24, .inl (fun _ => 0))), (q20, .inl (tc.1, 8, .inl (fun _ => 0))), (q21, .inl (tc.1, 40, .inl (fun _ => 0)))]) d12_init_168 lw_aI rfl (Nat.le_of_ble_eq_true rfl) ⟨(Nat.le_of_ble_eq_true rfl), (Nat.le_of_ble_eq_true rfl)⟩ (fun _ => rfl) (fun q21 => ?_)
  refine j_putF C hin d12_init_170 fp12_70 0 rfl rfl rfl (Nat.le_of_ble_eq_true rfl) (ws' := [(h_, .inr (12, (.int 0 :: .ref q1 :: .ref q2 :: .ref q3 :: .int 0 :: .ref q4 :: .ref q5 :: .ref q6 :: .ref q7 :: .int 0 :: .ref q8 :: .ref q9 :: .ref q10 :: .int 0 :: .int 0 :: .ref q11 :: .ref q12 :: .int 0 :: .int 0 :: .ref q13 :: .ref q14 :: .ref q15 :: .ref q16 :: .ref q17 :: .int 0 :: .int 0 :: .int 0 :: .int 0 :: .int 0 :: .ref q18 :: .ref q19 :: .ref q20 :: .ref q21 :: .int 0 :: .null :: .null :: .int 0 :: .int 0 :: .int 0 :: .int 0 :: .null :: .int 0 :: .int 0 :: .null :: .null :: .int 0 :: .null :: .null :: .null :: .null :: .null :: .null :: .null :: .null :: .null :: .int 0 :: []))), (q1, .inl (tc.1, 24, .inl (fun _ => 0))), (q2, .inl (tc.1, 24, .inl (fun _ => 0))), (q3, .inl (tc.1, 120, .inl (fun _ => 0))), (q4, .inl (tc.1, 10, .inl (fun _ => 0))), (q5, .inl (tc.1, 240, .inl (fun _ => 0))), (q6, .inl (tc.1, 240, .inl (fun _ => 0))), (q7, .inl (tc.1, 1200, .inl (fun _ => 0))), (q8, .inl (tc.1, 3, .inl (fun _ => 0))), (q9, .inl (tc.1, 3, .inl (fun _ => 0))), (q10, .inl (tc.1, 5, .inl (fun _ => 0))), (q11, .inl (tc.1, 8, .inl (fun _ => 0))), (q12, .inl (tc.1, 8, .inl (fun _ => 0))), (q13, .inl (tc.1, 8, .inl (fun _ => 0))), (q14, .inl (tc.1, 8, .inl (fun _ => 0))), (q15, .inl (tc.1, 1280, .inl (fun _ => 0))), (q16, .inl (tc.1, 32, .inl (fun _ => 0))), (q17, .inl (tc.1, 40, .inl (fun _ => 0))), (q18, .inl (tc.1, 120, .inl (fun _ => 0))), (q19, .inl (tc.1, 24, .inl (fun _ => 0))), (q20, .inl (tc.1, 8, .inl (fun _ => 0))), (q21, .inl (tc.1, 40, .inl (fun _ => 0)))]) rfl ?_
  refine j_aload C d12_init_173 0 rfl ?_
  refine j_const C d12_init_174 ?_
  refine j_newi (N := 66) C (fun q22 => [(h_, .inr (12, (.int 0 :: .ref q1 :: .ref q2 :: .ref q3 :: .int 0 :: .ref q4 :: .ref q5 :: .ref q6 :: .ref q7 :: .int 0 :: .ref q8 :: .ref q9 :: .ref q10 :: .int 0 :: .int 0 :: .ref q11 :: .ref q12 :: .int 0 :: .int 0 :: .ref q13 :: .ref q14 :: .ref q15 :: .ref q16 :: .ref q17 :: .int 0 :: .int 0 :: .int 0 :: .int 0 :: .int 0 :: .ref q18 :: .ref q19 :: .ref q20 :: .ref q21 :: .int 0 :: .null :: .null :: .int 0 :: .int 0 :: .int 0 :: .int 0 :: .null :: .int 0 :: .int 0 :: .null :: .null :: .int 0 :: .null :: .null :: .null :: .null :: .null :: .null :: .null :: .null :: .null :: .int 0 :: []))), (q1, .inl (tc.1, 24, .inl (fun _ => 0))), (q2, .inl (tc.1, 24, .inl (fun _ => 0))), (q3, .inl (tc.1, 120, .inl (fun _ => 0))), (q4, .inl (tc.1, 10, .inl (fun _ => 0))), (q5, .inl (tc.1, 240, .inl (fun _ => 0))), (q6, .inl (tc.1, 240, .inl (fun _ => 0))), (q7, .inl (tc.1, 1200, .inl (fun _ => 0))), (q8, .inl (tc.1, 3, .inl (fun _ => 0))), (q9, .inl (tc.1, 3, .inl (fun _ => 0))), (q10, .inl (tc.1, 5, .inl (fun _ => 0))), (q11, .inl (tc.1, 8, .inl (fun _ => 0))), (q12, .inl (tc.1, 8, .inl (fun _ => 0))), (q13, .inl (tc.1, 8, .inl (fun _ => 0))), (q14, .inl (tc.1, 8, .inl (fun _ => 0))), (q15, .inl (tc.1, 1280, .inl (fun _ => 0))), (q16, .inl (tc.1, 32, .inl (fun _ => 0))), (q17, .inl (tc.1, 40, .inl (fun _ => 0))), (q18, .inl (tc.1, 120, .inl (fun _ => 0))), (q19, .inl (tc.1, 24, .inl (fun _ => 0))), (q20, .inl (tc.1, 8, .inl (fun _ => 0))), (q21, .inl (tc.1, 40, .inl (fun _ => 0))), (q22, .inl (tc.1, 66, .inl (fun _ => 0)))]) d12_init_176 lw_aI rfl (Nat.le_of_ble_eq_true rfl) ⟨(Nat.le_of_ble_eq_true rfl), (Nat.le_of_ble_eq_true rfl)⟩ (fun _ => rfl) (fun q22 => ?_)
  refine j_putF C hin d12_init_178 fp12_73 0 rfl rfl rfl (Nat.le_of_ble_eq_true rfl) (ws' := [(h_, .inr (12, (.int 0 :: .ref q1 :: .ref q2 :: .ref q3 :: .int 0 :: .ref q4 :: .ref q5 :: .ref q6 :: .ref q7 :: .int 0 :: .ref q8 :: .ref q9 :: .ref q10 :: .int 0 :: .int 0 :: .ref q11 :: .ref q12 :: .int 0 :: .int 0 :: .ref q13 :: .ref q14 :: .ref q15 :: .ref q16 :: .ref q17 :: .int 0 :: .int 0 :: .int 0 :: .int 0 :: .int 0 :: .ref q18 :: .ref q19 :: .ref q20 :: .ref q21 :: .int 0 :: .ref q22 :: .null :: .int 0 :: .int 0 :: .int 0 :: .int 0 :: .null :: .int 0 :: .int 0 :: .null :: .null :: .int 0 :: .null :: .null :: .null :: .null :: .null :: .null :: .null :: .null :: .null :: .int 0 :: []))), (q1, .inl (tc.1, 24, .inl (fun _ => 0))), (q2, .inl (tc.1, 24, .inl (fun _ => 0))), (q3, .inl (tc.1, 120, .inl (fun _ => 0))), (q4, .inl (tc.1, 10, .inl (fun _ => 0))), (q5, .inl (tc.1, 240, .inl (fun _ => 0))), (q6, .inl (tc.1, 240, .inl (fun _ => 0))), (q7, .inl (tc.1, 1200, .inl (fun _ => 0))), (q8, .inl (tc.1, 3, .inl (fun _ => 0))), (q9, .inl (tc.1, 3, .inl (fun _ => 0))), (q10, .inl (tc.1, 5, .inl (fun _ => 0))), (q11, .inl (tc.1, 8, .inl (fun _ => 0))), (q12, .inl (tc.1, 8, .inl (fun _ => 0))), (q13, .inl (tc.1, 8, .inl (fun _ => 0))), (q14, .inl (tc.1, 8, .inl (fun _ => 0))), (q15, .inl (tc.1, 1280, .inl (fun _ => 0))), (q16, .inl (tc.1, 32, .inl (fun _ => 0))), (q17, .inl (tc.1, 40, .inl (fun _ => 0))), (q18, .inl (tc.1, 120, .inl (fun _ => 0))), (q19, .inl (tc.1, 24, .inl (fun _ => 0))), (q20, .inl (tc.1, 8, .inl (fun _ => 0))), (q21, .inl (tc.1, 40, .inl (fun _ => 0))), (q22, .inl (tc.1, 66, .inl (fun _ => 0)))]) rfl ?_
  refine j_aload C d12_init_181 0 rfl ?_
  refine j_const C d12_init_182 ?_
  refine j_newi (N := 66) C (fun q23 => [(h_, .inr (12, (.int 0 :: .ref q1 :: .ref q2 :: .ref q3 :: .int 0 :: .ref q4 :: .ref q5 :: .ref q6 :: .ref q7 :: .int 0 :: .ref q8 :: .ref q9 :: .ref q10 :: .int 0 :: .int 0 :: .ref q11 :: .ref q12 :: .int 0 :: .int 0 :: .ref q13 :: .ref q14 :: .ref q15 :: .ref q16 :: .ref q17 :: .int 0 :: .int 0 :: .int 0 :: .int 0 :: .int 0 :: .ref q18 :: .ref q19 :: .ref q20 :: .ref q21 :: .int 0 :: .ref q22 :: .null :: .int 0 :: .int 0 :: .int 0 :: .int 0 :: .null :: .int 0 :: .int 0 :: .null :: .null :: .int 0 :: .null :: .null :: .null :: .null :: .null :: .null :: .null :: .null :: .null :: .int 0 :: []))), (q1, .inl (tc.1, 24, .inl (fun _ => 0))), (q2, .inl (tc.1, 24, .inl (fun _ => 0))), (q3, .inl (tc.1, 120, .inl (fun _ => 0))), (q4, .inl (tc.1, 10, .inl (fun _ => 0))), (q5, .inl (tc.1, 240, .inl (fun _ => 0))), (q6, .inl (tc.1, 240, .inl (fun _ => 0))), (q7, .inl (tc.1, 1200, .inl (fun _ => 0))), (q8, .inl (tc.1, 3, .inl (fun _ => 0))), (q9, .inl (tc.1, 3, .inl (fun _ => 0))), (q10, .inl (tc.1, 5, .inl (fun _ => 0))), (q11, .inl (tc.1, 8, .inl (fun _ => 0))), (q12, .inl (tc.1, 8, .inl (fun _ => 0))), (q13, .inl (tc.1, 8, .inl (fun _ => 0))), (q14, .inl (tc.1, 8, .inl (fun _ => 0))), (q15, .inl (tc.1, 1280, .inl (fun _ => 0))), (q16, .inl (tc.1, 32, .inl (fun _ => 0))), (q17, .inl (tc.1, 40, .inl (fun _ => 0))), (q18, .inl (tc.1, 120, .inl (fun _ => 0))), (q19, .inl (tc.1, 24, .inl (fun _ => 0))), (q20, .inl (tc.1, 8, .inl (fun _ => 0))), (q21, .inl (tc.1, 40, .inl (fun _ => 0))), (q22, .inl (tc.1, 66, .inl (fun _ => 0))), (q23, .inl (tc.1, 66, .inl (fun _ => 0)))]) d12_init_184 lw_aI rfl (Nat.le_of_ble_eq_true rfl) ⟨(Nat.le_of_ble_eq_true rfl), (Nat.le_of_ble_eq_true rfl)⟩ (fun _ => rfl) (fun q23 => ?_)
  refine j_putF C hin d12_init_186 fp12_76 0 rfl rfl rfl (Nat.le_of_ble_eq_true rfl) (ws' := [(h_, .inr (12, (.int 0 :: .ref q1 :: .ref q2 :: .ref q3 :: .int 0 :: .ref q4 :: .ref q5 :: .ref q6 :: .ref q7 :: .int 0 :: .ref q8 :: .ref q9 :: .ref q10 :: .int 0 :: .int 0 :: .ref q11 :: .ref q12 :: .int 0 :: .int 0 :: .ref q13 :: .ref q14 :: .ref q15 :: .ref q16 :: .ref q17 :: .int 0 :: .int 0 :: .int 0 :: .int 0 :: .int 0 :: .ref q18 :: .ref q19 :: .ref q20 :: .ref q21 :: .int 0 :: .ref q22 :: .ref q23 :: .int 0 :: .int 0 :: .int 0 :: .int 0 :: .null :: .int 0 :: .int 0 :: .null :: .null :: .int 0 :: .null :: .null :: .null :: .null :: .null :: .null :: .null :: .null :: .null :: .int 0 :: []))), (q1, .inl (tc.1, 24, .inl (fun _ => 0))), (q2, .inl (tc.1, 24, .inl (fun _ => 0))), (q3, .inl (tc.1, 120, .inl (fun _ => 0))), (q4, .inl (tc.1, 10, .inl (fun _ => 0))), (q5, .inl (tc.1, 240, .inl (fun _ => 0))), (q6, .inl (tc.1, 240, .inl (fun _ => 0))), (q7, .inl (tc.1, 1200, .inl (fun _ => 0))), (q8, .inl (tc.1, 3, .inl (fun _ => 0))), (q9, .inl (tc.1, 3, .inl (fun _ => 0))), (q10, .inl (tc.1, 5, .inl (fun _ => 0))), (q11, .inl (tc.1, 8, .inl (fun _ => 0))), (q12, .inl (tc.1, 8, .inl (fun _ => 0))), (q13, .inl (tc.1, 8, .inl (fun _ => 0))), (q14, .inl (tc.1, 8, .inl (fun _ => 0))), (q15, .inl (tc.1, 1280, .inl (fun _ => 0))), (q16, .inl (tc.1, 32, .inl (fun _ => 0))), (q17, .inl (tc.1, 40, .inl (fun _ => 0))), (q18, .inl (tc.1, 120, .inl (fun _ => 0))), (q19, .inl (tc.1, 24, .inl (fun _ => 0))), (q20, .inl (tc.1, 8, .inl (fun _ => 0))), (q21, .inl (tc.1, 40, .inl (fun _ => 0))), (q22, .inl (tc.1, 66, .inl (fun _ => 0))), (q23, .inl (tc.1, 66, .inl (fun _ => 0)))]) rfl ?_
  refine j_aload C d12_init_189 0 rfl ?_
  refine j_const C d12_init_190 ?_
  refine j_newi (N := 300) C (fun q24 => [(h_, .inr (12, (.int 0 :: .ref q1 :: .ref q2 :: .ref q3 :: .int 0 :: .ref q4 :: .ref q5 :: .ref q6 :: .ref q7 :: .int 0 :: .ref q8 :: .ref q9 :: .ref q10 :: .int 0 :: .int 0 :: .ref q11 :: .ref q12 :: .int 0 :: .int 0 :: .ref q13 :: .ref q14 :: .ref q15 :: .ref q16 :: .ref q17 :: .int 0 :: .int 0 :: .int 0 :: .int 0 :: .int 0 :: .ref q18 :: .ref q19 :: .ref q20 :: .ref q21 :: .int 0 :: .ref q22 :: .ref q23 :: .int 0 :: .int 0 :: .int 0 :: .int 0 :: .null :: .int 0 :: .int 0 :: .null :: .null :: .int 0 :: .null :: .null :: .null :: .null :: .null :: .null :: .null :: .null :: .null :: .int 0 :: []))), (q1, .inl (tc.1, 24, .inl (fun _ => 0))), (q2, .inl (tc.1, 24, .inl (fun _ => 0))), (q3, .inl (tc.1, 120, .inl (fun _ => 0))), (q4, .inl (tc.1, 10, .inl (fun _ => 0))), (q5, .inl (tc.1, 240, .inl (fun _ => 0))), (q6, .inl (tc.1, 240, .inl (fun _ => 0))), (q7, .inl (tc.1, 1200, .inl (fun _ => 0))), (q8, .inl (tc.1, 3, .inl (fun _ => 0))), (q9, .inl (tc.1, 3, .inl (fun _ => 0))), (q10, .inl (tc.1, 5, .inl (fun _ => 0))), (q11, .inl (tc.1, 8, .inl (fun _ => 0))), (q12, .inl (tc.1, 8, .inl (fun _ => 0))), (q13, .inl (tc.1, 8, .inl (fun _ => 0))), (q14, .inl (tc.1, 8, .inl (fun _ => 0))), (q15, .inl (tc.1, 1280, .inl (fun _ => 0))), (q16, .inl (tc.1, 32, .inl (fun _ => 0))), (q17, .inl (tc.1, 40, .inl (fun _ => 0))), (q18, .inl (tc.1, 120, .inl (fun _ => 0))), (q19, .inl (tc.1, 24, .inl (fun _ => 0))), (q20, .inl (tc.1, 8, .inl (fun _ => 0))), (q21, .inl (tc.1, 40, .inl (fun _ => 0))), (q22, .inl (tc.1, 66, .inl (fun _ => 0))), (q23, .inl (tc.1, 66, .inl (fun _ => 0))), (q24, .inl (tc.1, 300, .inl (fun _ => 0)))]) d12_init_193 lw_aI rfl (Nat.le_of_ble_eq_true rfl) ⟨(Nat.le_of_ble_eq_true rfl), (Nat.le_of_ble_eq_true rfl)⟩ (fun _ => rfl) (fun q24 => ?_)
  refine j_putF C hin d12_init_195 fp12_79 0 rfl rfl rfl (Nat.le_of_ble_eq_true rfl) (ws' := [(h_, .inr (12, (.int 0 :: .ref q1 :: .ref q2 :: .ref q3 :: .int 0 :: .ref q4 :: .ref q5 :: .ref q6 :: .ref q7 :: .int 0 :: .ref q8 :: .ref q9 :: .ref q10 :: .int 0 :: .int 0 :: .ref q11 :: .ref q12 :: .int 0 :: .int 0 :: .ref q13 :: .ref q14 :: .ref q15 :: .ref q16 :: .ref q17 :: .int 0 :: .int 0 :: .int 0 :: .int 0 :: .int 0 :: .ref q18 :: .ref q19 :: .ref q20 :: .ref q21 :: .int 0 :: .ref q22 :: .ref q23 :: .int 0 :: .int 0 :: .int 0 :: .int 0 :: .ref q24 :: .int 0 :: .int 0 :: .null :: .null :: .int 0 :: .null :: .null :: .null :: .null :: .null :: .null :: .null :: .null :: .null :: .int 0 :: []))), (q1, .inl (tc.1, 24, .inl (fun _ => 0))), (q2, .inl (tc.1, 24, .inl (fun _ => 0))), (q3, .inl (tc.1, 120, .inl (fun _ => 0))), (q4, .inl (tc.1, 10, .inl (fun _ => 0))), (q5, .inl (tc.1, 240, .inl (fun _ => 0))), (q6, .inl (tc.1, 240, .inl (fun _ => 0))), (q7, .inl (tc.1, 1200, .inl (fun _ => 0))), (q8, .inl (tc.1, 3, .inl (fun _ => 0))), (q9, .inl (tc.1, 3, .inl (fun _ => 0))), (q10, .inl (tc.1, 5, .inl (fun _ => 0))), (q11, .inl (tc.1, 8, .inl (fun _ => 0))), (q12, .inl (tc.1, 8, .inl (fun _ => 0))), (q13, .inl (tc.1, 8, .inl (fun _ => 0))), (q14, .inl (tc.1, 8, .inl (fun _ => 0))), (q15, .inl (tc.1, 1280, .inl (fun _ => 0))), (q16, .inl (tc.1, 32, .inl (fun _ => 0))), (q17, .inl (tc.1, 40, .inl (fun _ => 0))), (q18, .inl (tc.1, 120, .inl (fun _ => 0))), (q19, .inl (tc.1, 24, .inl (fun _ => 0))), (q20, .inl (tc.1, 8, .inl (fun _ => 0))), (q21, .inl (tc.1, 40, .inl (fun _ => 0))), (q22, .inl (tc.1, 66, .inl (fun _ => 0))), (q23, .inl (tc.1, 66, .inl (fun _ => 0))), (q24, .inl (tc.1, 300, .inl (fun _ => 0)))]) rfl ?_
  refine j_aload C d12_init_198 0 rfl ?_
  refine j_const C d12_init_199 ?_
  refine j_newi (N := 300) C (fun q25 => [(h_, .inr (12, (.int 0 :: .ref q1 :: .ref q2 :: .ref q3 :: .int 0 :: .ref q4 :: .ref q5 :: .ref q6 :: .ref q7 :: .int 0 :: .ref q8 :: .ref q9 :: .ref q10 :: .int 0 :: .int 0 :: .ref q11 :: .ref q12 :: .int 0 :: .int 0 :: .ref q13 :: .ref q14 :: .ref q15 :: .ref q16 :: .ref q17 :: .int 0 :: .int 0 :: .int 0 :: .int 0 :: .int 0 :: .ref q18 :: .ref q19 :: .ref q20 :: .ref q21 :: .int 0 :: .ref q22 :: .ref q23 :: .int 0 :: .int 0 :: .int 0 :: .int 0 :: .ref q24 :: .int 0 :: .int 0 :: .null :: .null :: .int 0 :: .null :: .null :: .null :: .null :: .null :: .null :: .null :: .null :: .null :: .int 0 :: []))), (q1, .inl (tc.1, 24, .inl (fun _ => 0))), (q2, .inl (tc.1, 24, .inl (fun _ => 0))), (q3, .inl (tc.1, 120, .inl (fun _ => 0))), (q4, .inl (tc.1, 10, .inl (fun _ => 0))), (q5, .inl (tc.1, 240, .inl (fun _ => 0))), (q6, .inl (tc.1, 240, .inl (fun _ => 0))), (q7, .inl (tc.1, 1200, .inl (fun _ => 0))), (q8, .inl (tc.1, 3, .inl (fun _ => 0))), (q9, .inl (tc.1, 3, .inl (fun _ => 0))), (q10, .inl (tc.1, 5, .inl (fun _ => 0))), (q11, .inl (tc.1, 8, .inl (fun _ => 0))), (q12, .inl (tc.1, 8, .inl (fun _ => 0))), (q13, .inl (tc.1, 8, .inl (fun _ => 0))), (q14, .inl (tc.1, 8, .inl (fun _ => 0))), (q15, .inl (tc.1, 1280, .inl (fun _ => 0))), (q16, .inl (tc.1, 32, .inl (fun _ => 0))), (q17, .inl (tc.1, 40, .inl (fun _ => 0))), (q18, .inl (tc.1, 120, .inl (fun _ => 0))), (q19, .inl (tc.1, 24, .inl (fun _ => 0))), (q20, .inl (tc.1, 8, .inl (fun _ => 0))), (q21, .inl (tc.1, 40, .inl (fun _ => 0))), (q22, .inl (tc.1, 66, .inl (fun _ => 0))), (q23, .inl (tc.1, 66, .inl (fun _ => 0))), (q24, .inl (tc.1, 300, .inl (fun _ => 0))), (q25, .inl (tc.1, 300, .inl (fun _ => 0)))]) d12_init_202 lw_aI rfl (Nat.le_of_ble_eq_true rfl) ⟨(Nat.le_of_ble_eq_true rfl), (Nat.le_of_ble_eq_true rfl)⟩ (fun _ => rfl) (fun q25 => ?_)
  refine j_putF C hin d12_init_204 fp12_82 0 rfl rfl rfl (Nat.le_of_ble_eq_true rfl) (ws' := [(h_, .inr (12, (.int 0 :: .ref q1 :: .ref q2 :: .ref q3 :: .int 0 :: .ref q4 :: .ref q5 :: .ref q6 :: .ref q7 :: .int 0 :: .ref q8 :: .ref q9 :: .ref q10 :: .int 0 :: .int 0 :: .ref q11 :: .ref q12 :: .int 0 :: .int 0 :: .ref q13 :: .ref q14 :: .ref q15 :: .ref q16 :: .ref q17 :: .int 0 :: .int 0 :: .int 0 :: .int 0 :: .int 0 :: .ref q18 :: .ref q19 :: .ref q20 :: .ref q21 :: .int 0 :: .ref q22 :: .ref q23 :: .int 0 :: .int 0 :: .int 0 :: .int 0 :: .ref q24 :: .int 0 :: .int 0 :: .ref q25 :: .null :: .int 0 :: .null :: .null :: .null :: .null :: .null :: .null :: .null :: .null :: .null :: .int 0 :: []))), (q1, .inl (tc.1, 24, .inl (fun _ => 0))), (q2, .inl (tc.1, 24, .inl (fun _ => 0))), (q3, .inl (tc.1, 120, .inl (fun _ => 0))), (q4, .inl (tc.1, 10, .inl (fun _ => 0))), (q5, .inl (tc.1, 240, .inl (fun _ => 0))), (q6, .inl (tc.1, 240, .inl (fun _ => 0))), (q7, .inl (tc.1, 1200, .inl (fun _ => 0))), (q8, .inl (tc.1, 3, .inl (fun _ => 0))), (q9, .inl (tc.1, 3, .inl (fun _ => 0))), (q10, .inl (tc.1, 5, .inl (fun _ => 0))), (q11, .inl (tc.1, 8, .inl (fun _ => 0))), (q12, .inl (tc.1, 8, .inl (fun _ => 0))), (q13, .inl (tc.1, 8, .inl (fun _ => 0))), (q14, .inl (tc.1, 8, .inl (fun _ => 0))), (q15, .inl (tc.1, 1280, .inl (fun _ => 0))), (q16, .inl (tc.1, 32, .inl (fun _ => 0))), (q17, .inl (tc.1, 40, .inl (fun _ => 0))), (q18, .inl (tc.1, 120, .inl (fun _ => 0))), (q19, .inl (tc.1, 24, .inl (fun _ => 0))), (q20, .inl (tc.1, 8, .inl (fun _ => 0))), (q21, .inl (tc.1, 40, .inl (fun _ => 0))), (q22, .inl (tc.1, 66, .inl (fun _ => 0))), (q23, .inl (tc.1, 66, .inl (fun _ => 0))), (q24, .inl (tc.1, 300, .inl (fun _ => 0))), (q25, .inl (tc.1, 300, .inl (fun _ => 0)))]) rfl ?_
  refine j_aload C d12_init_207 0 rfl ?_
  refine j_const C d12_init_208 ?_
  refine j_newi (N := 300) C (fun q26 => [(h_, .inr (12, (.int 0 :: .ref q1 :: .ref q2 :: .ref q3 :: .int 0 :: .ref q4 :: .ref q5 :: .ref q6 :: .ref q7 :: .int 0 :: .ref q8 :: .ref q9 :: .ref q10 :: .int 0 :: .int 0 :: .ref q11 :: .ref q12 :: .int 0 :: .int 0 :: .ref q13 :: .ref q14 :: .ref q15 :: .ref q16 :: .ref q17 :: .int 0 :: .int 0 :: .int 0 :: .int 0 :: .int 0 :: .ref q18 :: .ref q19 :: .ref q20 :: .ref q21 :: .int 0 :: .ref q22 :: .ref q23 :: .int 0 :: .int 0 :: .int 0 :: .int 0 :: .ref q24 :: .int 0 :: .int 0 :: .ref q25 :: .null :: .int 0 :: .null :: .null :: .null :: .null :: .null :: .null :: .null :: .null :: .null :: .int 0 :: []))), (q1, .inl (tc.1, 24, .inl (fun _ => 0))), (q2, .inl (tc.1, 24, .inl (fun _ => 0))), (q3, .inl (tc.1, 120, .inl (fun _ => 0))), (q4, .inl (tc.1, 10, .inl (fun _ => 0))), (q5, .inl (tc.1, 240, .inl (fun _ => 0))), (q6, .inl (tc.1, 240, .inl (fun _ => 0))), (q7, .inl (tc.1, 1200, .inl (fun _ => 0))), (q8, .inl (tc.1, 3, .inl (fun _ => 0))), (q9, .inl (tc.1, 3, .inl (fun _ => 0))), (q10, .inl (tc.1, 5, .inl (fun _ => 0))), (q11, .inl (tc.1, 8, .inl (fun _ => 0))), (q12, .inl (tc.1, 8, .inl (fun _ => 0))), (q13, .inl (tc.1, 8, .inl (fun _ => 0))), (q14, .inl (tc.1, 8, .inl (fun _ => 0))), (q15, .inl (tc.1, 1280, .inl (fun _ => 0))), (q16, .inl (tc.1, 32, .inl (fun _ => 0))), (q17, .inl (tc.1, 40, .inl (fun _ => 0))), (q18, .inl (tc.1, 120, .inl (fun _ => 0))), (q19, .inl (tc.1, 24, .inl (fun _ => 0))), (q20, .inl (tc.1, 8, .inl (fun _ => 0))), (q21, .inl (tc.1, 40, .inl (fun _ => 0))), (q22, .inl (tc.1, 66, .inl (fun _ => 0))), (q23, .inl (tc.1, 66, .inl (fun _ => 0))), (q24, .inl (tc.1, 300, .inl (fun _ => 0))), (q25, .inl (tc.1, 300, .inl (fun _ => 0))), (q26, .inl (tc.1, 300, .inl (fun _ => 0)))]) d12_init_211 lw_aI rfl (Nat.le_of_ble_eq_true rfl) ⟨(Nat.le_of_ble_eq_true rfl), (Nat.le_of_ble_eq_true rfl)⟩ (fun _ => rfl) (fun q26 => ?_)
  refine j_putF C hin d12_init_213 fp12_85 0 rfl rfl rfl (Nat.le_of_ble_eq_true rfl) (ws' := [(h_, .inr (12, (.int 0 :: .ref q1 :: .ref q2 :: .ref q3 :: .int 0 :: .ref q4 :: .ref q5 :: .ref q6 :: .ref q7 :: .int 0 :: .ref q8 :: .ref q9 :: .ref q10 :: .int 0 :: .int 0 :: .ref q11 :: .ref q12 :: .int 0 :: .int 0 :: .ref q13 :: .ref q14 :: .ref q15 :: .ref q16 :: .ref q17 :: .int 0 :: .int 0 :: .int 0 :: .int 0 :: .int 0 :: .ref q18 :: .ref q19 :: .ref q20 :: .ref q21 :: .int 0 :: .ref q22 :: .ref q23 :: .int 0 :: .int 0 :: .int 0 :: .int 0 :: .ref q24 :: .int 0 :: .int 0 :: .ref q25 :: .ref q26 :: .int 0 :: .null :: .null :: .null :: .null :: .null :: .null :: .null :: .null :: .null :: .int 0 :: []))), (q1, .inl (tc.1, 24, .inl (fun _ => 0))), (q2, .inl (tc.1, 24, .inl (fun _ => 0))), (q3, .inl (tc.1, 120, .inl (fun _ => 0))), (q4, .inl (tc.1, 10, .inl (fun _ => 0))), (q5, .inl (tc.1, 240, .inl (fun _ => 0))), (q6, .inl (tc.1, 240, .inl (fun _ => 0))), (q7, .inl (tc.1, 1200, .inl (fun _ => 0))), (q8, .inl (tc.1, 3, .inl (fun _ => 0))), (q9, .inl (tc.1, 3, .inl (fun _ => 0))), (q10, .inl (tc.1, 5, .inl (fun _ => 0))), (q11, .inl (tc.1, 8, .inl (fun _ => 0))), (q12, .inl (tc.1, 8, .inl (fun _ => 0))), (q13, .inl (tc.1, 8, .inl (fun _ => 0))), (q14, .inl (tc.1, 8, .inl (fun _ => 0))), (q15, .inl (tc.1, 1280, .inl (fun _ => 0))), (q16, .inl (tc.1, 32, .inl (fun _ => 0))), (q17, .inl (tc.1, 40, .inl (fun _ => 0))), (q18, .inl (tc.1, 120, .inl (fun _ => 0))), (q19, .inl (tc.1, 24, .inl (fun _ => 0))), (q20, .inl (tc.1, 8, .inl (fun _ => 0))), (q21, .inl (tc.1, 40, .inl (fun _ => 0))), (q22, .inl (tc.1, 66, .inl (fun _ => 0))), (q23, .inl (tc.1, 66, .inl (fun _ => 0))), (q24, .inl (tc.1, 300, .inl (fun _ => 0))), (q25, .inl (tc.1, 300, .inl (fun _ => 0))), (q26, .inl (tc.1, 300, .inl (fun _ => 0)))]) rfl ?_
  refine j_aload C d12_init_216 0 rfl ?_
  refine j_const C d12_init_217 ?_
  refine j_newi (N := 300) C (fun q27 => [(h_, .inr (12, (.int 0 :: .ref q1 :: .ref q2 :: .ref q3 :: .int 0 :: .ref q4 :: .ref q5 :: .ref q6 :: .ref q7 :: .int 0 :: .ref q8 :: .ref q9 :: .ref q10 :: .int 0 :: .int 0 :: .ref q11 :: .ref q12 :: .int 0 :: .int 0 :: .ref q13 :: .ref q14 :: .ref q15 :: .ref q16 :: .ref q17 :: .int 0 :: .int 0 :: .int 0 :: .int 0 :: .int 0 :: .ref q18 :: .ref q19 :: .ref q20 :: .ref q21 :: .int 0 :: .ref q22 :: .ref q23 :: .int 0 :: .int 0 :: .int 0 :: .int 0 :: .ref q24 :: .int 0 :: .int 0 :: .ref q25 :: .ref q26 :: .int 0 :: .null :: .null :: .null :: .null :: .null :: .null :: .null :: .null :: .null :: .int 0 :: []))), (q1, .inl (tc.1, 24, .inl (fun _ => 0))), (q2, .inl (tc.1, 24, .inl (fun _ => 0))), (q3, .inl (tc.1, 120, .inl (fun _ => 0))), (q4, .inl (tc.1, 10, .inl (fun _ => 0))), (q5, .inl (tc.1, 240, .inl (fun _ => 0))), (q6, .inl (tc.1, 240, .inl (fun _ => 0))), (q7, .inl (tc.1, 1200, .inl (fun _ => 0))), (q8, .inl (tc.1, 3, .inl (fun _ => 0))), (q9, .inl (tc.1, 3, .inl (fun _ => 0))), (q10, .inl (tc.1, 5, .inl (fun _ => 0))), (q11, .inl (tc.1, 8, .inl (fun _ => 0))), (q12, .inl (tc.1, 8, .inl (fun _ => 0))), (q13, .inl (tc.1, 8, .inl (fun _ => 0))), (q14, .inl (tc.1, 8, .inl (fun _ => 0))), (q15, .inl (tc.1, 1280, .inl (fun _ => 0))), (q16, .inl (tc.1, 32, .inl (fun _ => 0))), (q17, .inl (tc.1, 40, .inl (fun _ => 0))), (q18, .inl (tc.1, 120, .inl (fun _ => 0))), (q19, .inl (tc.1, 24, .inl (fun _ => 0))), (q20, .inl (tc.1, 8, .inl (fun _ => 0))), (q21, .inl (tc.1, 40, .inl (fun _ => 0))), (q22, .inl (tc.1, 66, .inl (fun _ => 0))), (q23, .inl (tc.1, 66, .inl (fun _ => 0))), (q24, .inl (tc.1, 300, .inl (fun _ => 0))), (q25, .inl (tc.1, 300, .inl (fun _ => 0))), (q26, .inl (tc.1, 300, .inl (fun _ => 0))), (q27, .inl (tc.1, 300, .inl (fun _ => 0)))]) d12_init_220 lw_aI rfl (Nat.le_of_ble_eq_true rfl) ⟨(Nat.le_of_ble_eq_true rfl), (Nat.le_of_ble_eq_true rfl)⟩ (fun _ => rfl) (fun q27 => ?_)
  refine j_putF C hin d12_init_222 fp12_88 0 rfl rfl rfl (Nat.le_of_ble_eq_true rfl) (ws' := [(h_, .inr (12, (.int 0 :: .ref q1 :: .ref q2 :: .ref q3 :: .int 0 :: .ref q4 :: .ref q5 :: .ref q6 :: .ref q7 :: .int 0 :: .ref q8 :: .ref q9 :: .ref q10 :: .int 0 :: .int 0 :: .ref q11 :: .ref q12 :: .int 0 :: .int 0 :: .ref q13 :: .ref q14 :: .ref q15 :: .ref q16 :: .ref q17 :: .int 0 :: .int 0 :: .int 0 :: .int 0 :: .int 0 :: .ref q18 :: .ref q19 :: .ref q20 :: .ref q21 :: .int 0 :: .ref q22 :: .ref q23 :: .int 0 :: .int 0 :: .int 0 :: .int 0 :: .ref q24 :: .int 0 :: .int 0 :: .ref q25 :: .ref q26 :: .int 0 :: .ref q27 :: .null :: .null :: .null :: .null :: .null :: .null :: .null :: .null :: .int 0 :: []))), (q1, .inl (tc.1, 24, .inl (fun _ => 0))), (q2, .inl (tc.1, 24, .inl (fun _ => 0))), (q3, .inl (tc.1, 120, .inl (fun _ => 0))), (q4, .inl (tc.1, 10, .inl (fun _ => 0))), (q5, .inl (tc.1, 240, .inl (fun _ => 0))), (q6, .inl (tc.1, 240, .inl (fun _ => 0))), (q7, .inl (tc.1, 1200, .inl (fun _ => 0))), (q8, .inl (tc.1, 3, .inl (fun _ => 0))), (q9, .inl (tc.1, 3, .inl (fun _ => 0))), (q10, .inl (tc.1, 5, .inl (fun _ => 0))), (q11, .inl (tc.1, 8, .inl (fun _ => 0))), (q12, .inl (tc.1, 8, .inl (fun _ => 0))), (q13, .inl (tc.1, 8, .inl (fun _ => 0))), (q14, .inl (tc.1, 8, .inl (fun _ => 0))), (q15, .inl (tc.1, 1280, .inl (fun _ => 0))), (q16, .inl (tc.1, 32, .inl (fun _ => 0))), (q17, .inl (tc.1, 40, .inl (fun _ => 0))), (q18, .inl (tc.1, 120, .inl (fun _ => 0))), (q19, .inl (tc.1, 24, .inl (fun _ => 0))), (q20, .inl (tc.1, 8, .inl (fun _ => 0))), (q21, .inl (tc.1, 40, .inl (fun _ => 0))), (q22, .inl (tc.1, 66, .inl (fun _ => 0))), (q23, .inl (tc.1, 66, .inl (fun _ => 0))), (q24, .inl (tc.1, 300, .inl (fun _ => 0))), (q25, .inl (tc.1, 300, .inl (fun _ => 0))), (q26, .inl (tc.1, 300, .inl (fun _ => 0))), (q27, .inl (tc.1, 300, .inl (fun _ => 0)))]) rfl ?_
  refine j_aload C d12_init_225 0 rfl ?_
  refine j_const C d12_init_226 ?_
  refine j_newi (N := 300) C (fun q28 => [(h_, .inr (12, (.int 0 :: .ref q1 :: .ref q2 :: .ref q3 :: .int 0 :: .ref q4 :: .ref q5 :: .ref q6 :: .ref q7 :: .int 0 :: .ref q8 :: .ref q9 :: .ref q10 :: .int 0 :: .int 0 :: .ref q11 :: .ref q12 :: .int 0 :: .int 0 :: .ref q13 :: .ref q14 :: .ref q15 :: .ref q16 :: .ref q17 :: .int 0 :: .int 0 :: .int 0 :: .int 0 :: .int 0 :: .ref q18 :: .ref q19 :: .ref q20 :: .ref q21 :: .int 0 :: .ref q22 :: .ref q23 :: .int 0 :: .int 0 :: .int 0 :: .int 0 :: .ref q24 :: .int 0 :: .int 0 :: .ref q25 :: .ref q26 :: .int 0 :: .ref q27 :: .null :: .null :: .null :: .null :: .null :: .null :: .null :: .null :: .int 0 :: []))), (q1, .inl (tc.1, 24, .inl (fun _ => 0))), (q2, .inl (tc.1, 24, .inl (fun _ => 0))), (q3, .inl (tc.1, 120, .inl (fun _ => 0))), (q4, .inl (tc.1, 10, .inl (fun _ => 0))), (q5, .inl (tc.1, 240, .inl (fun _ => 0))), (q6, .inl (tc.1, 240, .inl (fun _ => 0))), (q7, .inl (tc.1, 1200, .inl (fun _ => 0))), (q8, .inl (tc.1, 3, .inl (fun _ => 0))), (q9, .inl (tc.1, 3, .inl (fun _ => 0))), (q10, .inl (tc.1, 5, .inl (fun _ => 0))), (q11, .inl (tc.1, 8, .inl (fun _ => 0))), (q12, .inl (tc.1, 8, .inl (fun _ => 0))), (q13, .inl (tc.1, 8, .inl (fun _ => 0))), (q14, .inl (tc.1, 8, .inl (fun _ => 0))), (q15, .inl (tc.1, 1280, .inl (fun _ => 0))), (q16, .inl (tc.1, 32, .inl (fun _ => 0))), (q17, .inl (tc.1, 40, .inl (fun _ => 0))), (q18, .inl (tc.1, 120, .inl (fun _ => 0))), (q19, .inl (tc.1, 24, .inl (fun _ => 0))), (q20, .inl (tc.1, 8, .inl (fun _ => 0))), (q21, .inl (tc.1, 40, .inl (fun _ => 0))), (q22, .inl (tc.1, 66, .inl (fun _ => 0))), (q23, .inl (tc.1, 66, .inl (fun _ => 0))), (q24, .inl (tc.1, 300, .inl (fun _ => 0))), (q25, .inl (tc.1, 300, .inl (fun _ => 0))), (q26, .inl (tc.1, 300, .inl (fun _ => 0))), (q27, .inl (tc.1, 300, .inl (fun _ => 0))), (q28, .inl (tc.1, 300, .inl (fun _ => 0)))]) d12_init_229 lw_aI rfl (Nat.le_of_ble_eq_true rfl) ⟨(Nat.le_of_ble_eq_true rfl), (Nat.le_of_ble_eq_true rfl)⟩ (fun _ => rfl) (fun q28 => ?_)
  refine j_putF C hin d12_init_231 fp12_91 0 rfl rfl rfl (Nat.le_of_ble_eq_true rfl) (ws' := [(h_, .inr (12, (.int 0 :: .ref q1 :: .ref q2 :: .ref q3 :: .int 0 :: .ref q4 :: .ref q5 :: .ref q6 :: .ref q7 :: .int 0 :: .ref q8 :: .ref q9 :: .ref q10 :: .int 0 :: .int 0 :: .ref q11 :: .ref q12 :: .int 0 :: .int 0 :: .ref q13 :: .ref q14 :: .ref q15 :: .ref q16 :: .ref q17 :: .int 0 :: .int 0 :: .int 0 :: .int 0 :: .int 0 :: .ref q18 :: .ref q19 :: .ref q20 :: .ref q21 :: .int 0 :: .ref q22 :: .ref q23 :: .int 0 :: .int 0 :: .int 0 :: .int 0 :: .ref q24 :: .int 0 :: .int 0 :: .ref q25 :: .ref q26 :: .int 0 :: .ref q27 :: .ref q28 :: .null :: .null :: .null :: .null :: .null :: .null :: .null :: .int 0 :: []))), (q1, .inl (tc.1, 24, .inl (fun _ => 0))), (q2, .inl (tc.1, 24, .inl (fun _ => 0))), (q3, .inl (tc.1, 120, .inl (fun _ => 0))), (q4, .inl (tc.1, 10, .inl (fun _ => 0))), (q5, .inl (tc.1, 240, .inl (fun _ => 0))), (q6, .inl (tc.1, 240, .inl (fun _ => 0))), (q7, .inl (tc.1, 1200, .inl (fun _ => 0))), (q8, .inl (tc.1, 3, .inl (fun _ => 0))), (q9, .inl (tc.1, 3, .inl (fun _ => 0))), (q10, .inl (tc.1, 5, .inl (fun _ => 0))), (q11, .inl (tc.1, 8, .inl (fun _ => 0))), (q12, .inl (tc.1, 8, .inl (fun _ => 0))), (q13, .inl (tc.1, 8, .inl (fun _ => 0))), (q14, .inl (tc.1, 8, .inl (fun _ => 0))), (q15, .inl (tc.1, 1280, .inl (fun _ => 0))), (q16, .inl (tc.1, 32, .inl (fun _ => 0))), (q17, .inl (tc.1, 40, .inl (fun _ => 0))), (q18, .inl (tc.1, 120, .inl (fun _ => 0))), (q19, .inl (tc.1, 24, .inl (fun _ => 0))), (q20, .inl (tc.1, 8, .inl (fun _ => 0))), (q21, .inl (tc.1, 40, .inl (fun _ => 0))), (q22, .inl (tc.1, 66, .inl (fun _ => 0))), (q23, .inl (tc.1, 66, .inl (fun _ => 0))), (q24, .inl (tc.1, 300, .inl (fun _ => 0))), (q25, .inl (tc.1, 300, .inl (fun _ => 0))), (q26, .inl (tc.1, 300, .inl (fun _ => 0))), (q27, .inl (tc.1, 300, .inl (fun _ => 0))), (q28, .inl (tc.1, 300, .inl (fun _ => 0)))]) rfl ?_
  refine j_aload C d12_init_234 0 rfl ?_
  refine j_const C d12_init_235 ?_
  refine j_newi (N := 300) C (fun q29 => [(h_, .inr (12, (.int 0 :: .ref q1 :: .ref q2 :: .ref q3 :: .int 0 :: .ref q4 :: .ref q5 :: .ref q6 :: .ref q7 :: .int 0 :: .ref q8 :: .ref q9 :: .ref q10 :: .int 0 :: .int 0 :: .ref q11 :: .ref q12 :: .int 0 :: .int 0 :: .ref q13 :: .ref q14 :: .ref q15 :: .ref q16 :: .ref q17 :: .int 0 :: .int 0 :: .int 0 :: .int 0 :: .int 0 :: .ref q18 :: .ref q19 :: .ref q20 :: .ref q21 :: .int 0 :: .ref q22 :: .ref q23 :: .int 0 :: .int 0 :: .int 0 :: .int 0 :: .ref q24 :: .int 0 :: .int 0 :: .ref q25 :: .ref q26 :: .int 0 :: .ref q27 :: .ref q28 :: .null :: .null :: .null :: .null :: .null :: .null :: .null :: .int 0 :: []))), (q1, .inl (tc.1, 24, .inl (fun _ => 0))), (q2, .inl (tc.1, 24, .inl (fun _ => 0))), (q3, .inl (tc.1, 120, .inl (fun _ => 0))), (q4, .inl (tc.1, 10, .inl (fun _ => 0))), (q5, .inl (tc.1, 240, .inl (fun _ => 0))), (q6, .inl (tc.1, 240, .inl (fun _ => 0))), (q7, .inl (tc.1, 1200, .inl (fun _ => 0))), (q8, .inl (tc.1, 3, .inl (fun _ => 0))), (q9, .inl (tc.1, 3, .inl (fun _ => 0))), (q10, .inl (tc.1, 5, .inl (fun _ => 0))), (q11, .inl (tc.1, 8, .inl (fun _ => 0))), (q12, .inl (tc.1, 8, .inl (fun _ => 0))), (q13, .inl (tc.1, 8, .inl (fun _ => 0))), (q14, .inl (tc.1, 8, .inl (fun _ => 0))), (q15, .inl (tc.1, 1280, .inl (fun _ => 0))), (q16, .inl (tc.1, 32, .inl (fun _ => 0))), (q17, .inl (tc.1, 40, .inl (fun _ => 0))), (q18, .inl (tc.1, 120, .inl (fun _ => 0))), (q19, .inl (tc.1, 24, .inl (fun _ => 0))), (q20, .inl (tc.1, 8, .inl (fun _ => 0))), (q21, .inl (tc.1, 40, .inl (fun _ => 0))), (q22, .inl (tc.1, 66, .inl (fun _ => 0))), (q23, .inl (tc.1, 66, .inl (fun _ => 0))), (q24, .inl (tc.1, 300, .inl (fun _ => 0))), (q25, .inl (tc.1, 300, .inl (fun _ => 0))), (q26, .inl (tc.1, 300, .inl (fun _ => 0))), (q27, .inl (tc.1, 300, .inl (fun _ => 0))), (q28, .inl (tc.1, 300, .inl (fun _ => 0))), (q29, .inl (tc.1, 300, .inl (fun _ => 0)))]) d12_init_238 lw_aI rfl (Nat.le_of_ble_eq_true rfl) ⟨(Nat.le_of_ble_eq_true rfl), (Nat.le_of_ble_eq_true rfl)⟩ (fun _ => rfl) (fun q29 => ?_)
  refine j_putF C hin d12_init_240 fp12_94 0 rfl rfl rfl (Nat.le_of_ble_eq_true rfl) (ws' := [(h_, .inr (12, (.int 0 :: .ref q1 :: .ref q2 :: .ref q3 :: .int 0 :: .ref q4 :: .ref q5 :: .ref q6 :: .ref q7 :: .int 0 :: .ref q8 :: .ref q9 :: .ref q10 :: .int 0 :: .int 0 :: .ref q11 :: .ref q12 :: .int 0 :: .int 0 :: .ref q13 :: .ref q14 :: .ref q15 :: .ref q16 :: .ref q17 :: .int 0 :: .int 0 :: .int 0 :: .int 0 :: .int 0 :: .ref q18 :: .ref q19 :: .ref q20 :: .ref q21 :: .int 0 :: .ref q22 :: .ref q23 :: .int 0 :: .int 0 :: .int 0 :: .int 0 :: .ref q24 :: .int 0 :: .int 0 :: .ref q25 :: .ref q26 :: .int 0 :: .ref q27 :: .ref q28 :: .ref q29 :: .null :: .null :: .null :: .null :: .null :: .null :: .int 0 :: []))), (q1, .inl (tc.1, 24, .inl (fun _ => 0))), (q2, .inl (tc.1, 24, .inl (fun _ => 0))), (q3, .inl (tc.1, 120, .inl (fun _ => 0))), (q4, .inl (tc.1, 10, .inl (fun _ => 0))), (q5, .inl (tc.1, 240, .inl (fun _ => 0))), (q6, .inl (tc.1, 240, .inl (fun _ => 0))), (q7, .inl (tc.1, 1200, .inl (fun _ => 0))), (q8, .inl (tc.1, 3, .inl (fun _ => 0))), (q9, .inl (tc.1, 3, .inl (fun _ => 0))), (q10, .inl (tc.1, 5, .inl (fun _ => 0))), (q11, .inl (tc.1, 8, .inl (fun _ => 0))), (q12, .inl (tc.1, 8, .inl (fun _ => 0))), (q13, .inl (tc.1, 8, .inl (fun _ => 0))), (q14, .inl (tc.1, 8, .inl (fun _ => 0))), (q15, .inl (tc.1, 1280, .inl (fun _ => 0))), (q16, .inl (tc.1, 32, .inl (fun _ => 0))), (q17, .inl (tc.1, 40, .inl (fun _ => 0))), (q18, .inl (tc.1, 120, .inl (fun _ => 0))), (q19, .inl (tc.1, 24, .inl (fun _ => 0))), (q20, .inl (tc.1, 8, .inl (fun _ => 0))), (q21, .inl (tc.1, 40, .inl (fun _ => 0))), (q22, .inl (tc.1, 66, .inl (fun _ => 0))), (q23, .inl (tc.1, 66, .inl (fun _ => 0))), (q24, .inl (tc.1, 300, .inl (fun _ => 0))), (q25, .inl (tc.1, 300, .inl (fun _ => 0))), (q26, .inl (tc.1, 300, .inl (fun _ => 0))), (q27, .inl (tc.1, 300, .inl (fun _ => 0))), (q28, .inl (tc.1, 300, .inl (fun _ => 0))), (q29, .inl (tc.1, 300, .inl (fun _ => 0)))]) rfl ?_
  refine j_aload C d12_init_243 0 rfl ?_
  refine j_const C d12_init_244 ?_
  refine j_newi (N := 8) C (fun q30 => [(h_, .inr (12, (.int 0 :: .ref q1 :: .ref q2 :: .ref q3 :: .int 0 :: .ref q4 :: .ref q5 :: .ref q6 :: .ref q7 :: .int 0 :: .ref q8 :: .ref q9 :: .ref q10 :: .int 0 :: .int 0 :: .ref q11 :: .ref q12 :: .int 0 :: .int 0 :: .ref q13 :: .ref q14 :: .ref q15 :: .ref q16 :: .ref q17 :: .int 0 :: .int 0 :: .int 0 :: .int 0 :: .int 0 :: .ref q18 :: .ref q19 :: .ref q20 :: .ref q21 :: .int 0 :: .ref q22 :: .ref q23 :: .int 0 :: .int 0 :: .int 0 :: .int 0 :: .ref q24 :: .int 0 :: .int 0 :: .ref q25 :: .ref q26 :: .int 0 :: .ref q27 :: .ref q28 :: .ref q29 :: .null :: .null :: .null :: .null :: .null :: .null :: .int 0 :: []))), (q1, .inl (tc.1, 24, .inl (fun _ => 0))), (q2, .inl (tc.1, 24, .inl (fun _ => 0))), (q3, .inl (tc.1, 120, .inl (fun _ => 0))), (q4, .inl (tc.1, 10, .inl (fun _ => 0))), (q5, .inl (tc.1, 240, .inl (fun _ => 0))), (q6, .inl (tc.1, 240, .inl (fun _ => 0))), (q7, .inl (tc.1, 1200, .inl (fun _ => 0))), (q8, .inl (tc.1, 3, .inl (fun _ => 0))), (q9, .inl (tc.1, 3, .inl (fun _ => 0))), (q10, .inl (tc.1, 5, .inl (fun _ => 0))), (q11, .inl (tc.1, 8, .inl (fun _ => 0))), (q12, .inl (tc.1, 8, .inl (fun _ => 0))), (q13, .inl (tc.1, 8, .inl (fun _ => 0))), (q14, .inl (tc.1, 8, .inl (fun _ => 0))), (q15, .inl (tc.1, 1280, .inl (fun _ => 0))), (q16, .inl (tc.1, 32, .inl (fun _ => 0))), (q17, .inl (tc.1, 40, .inl (fun _ => 0))), (q18, .inl (tc.1, 120, .inl (fun _ => 0))), (q19, .inl (tc.1, 24, .inl (fun _ => 0))), (q20, .inl (tc.1, 8, .inl (fun _ => 0))), (q21, .inl (tc.1, 40, .inl (fun _ => 0))), (q22, .inl (tc.1, 66, .inl (fun _ => 0))), (q23, .inl (tc.1, 66, .inl (fun _ => 0))), (q24, .inl (tc.1, 300, .inl (fun _ => 0))), (q25, .inl (tc.1, 300, .inl (fun _ => 0))), (q26, .inl (tc.1, 300, .inl (fun _ => 0))), (q27, .inl (tc.1, 300, .inl (fun _ => 0))), (q28, .inl (tc.1, 300, .inl (fun _ => 0))), (q29, .inl (tc.1, 300, .inl (fun _ => 0))), (q30, .inl (tc.1, 8, .inl (fun _ => 0)))]) d12_init_246 lw_aI rfl (Nat.le_of_ble_eq_true rfl) ⟨(Nat.le_of_ble_eq_true rfl), (Nat.le_of_ble_eq_true rfl)⟩ (fun _ => rfl) (fun q30 => ?_)
  refine j_dup C d12_init_248 rfl ?_
  refine j_const C d12_init_249 ?_
  refine j_const C d12_init_250 ?_
  refine j_iastK (j := 0) C d12_init_251 30 rfl rfl (Nat.le_of_ble_eq_true rfl) (Nat.le_of_ble_eq_true rfl) (ws' := [(h_, .inr (12, (.int 0 :: .ref q1 :: .ref q2 :: .ref q3 :: .int 0 :: .ref q4 :: .ref q5 :: .ref q6 :: .ref q7 :: .int 0 :: .ref q8 :: .ref q9 :: .ref q10 :: .int 0 :: .int 0 :: .ref q11 :: .ref q12 :: .int 0 :: .int 0 :: .ref q13 :: .ref q14 :: .ref q15 :: .ref q16 :: .ref q17 :: .int 0 :: .int 0 :: .int 0 :: .int 0 :: .int 0 :: .ref q18 :: .ref q19 :: .ref q20 :: .ref q21 :: .int 0 :: .ref q22 :: .ref q23 :: .int 0 :: .int 0 :: .int 0 :: .int 0 :: .ref q24 :: .int 0 :: .int 0 :: .ref q25 :: .ref q26 :: .int 0 :: .ref q27 :: .ref q28 :: .ref q29 :: .null :: .null :: .null :: .null :: .null :: .null :: .int 0 :: []))), (q1, .inl (tc.1, 24, .inl (fun _ => 0))), (q2, .inl (tc.1, 24, .inl (fun _ => 0))), (q3, .inl (tc.1, 120, .inl (fun _ => 0))), (q4, .inl (tc.1, 10, .inl (fun _ => 0))), (q5, .inl (tc.1, 240, .inl (fun _ => 0))), (q6, .inl (tc.1, 240, .inl (fun _ => 0))), (q7, .inl (tc.1, 1200, .inl (fun _ => 0))), (q8, .inl (tc.1, 3, .inl (fun _ => 0))), (q9, .inl (tc.1, 3, .inl (fun _ => 0))), (q10, .inl (tc.1, 5, .inl (fun _ => 0))), (q11, .inl (tc.1, 8, .inl (fun _ => 0))), (q12, .inl (tc.1, 8, .inl (fun _ => 0))), (q13, .inl (tc.1, 8, .inl (fun _ => 0))), (q14, .inl (tc.1, 8, .inl (fun _ => 0))), (q15, .inl (tc.1, 1280, .inl (fun _ => 0))), (q16, .inl (tc.1, 32, .inl (fun _ => 0))), (q17, .inl (tc.1, 40, .inl (fun _ => 0))), (q18, .inl (tc.1, 120, .inl (fun _ => 0))), (q19, .inl (tc.1, 24, .inl (fun _ => 0))), (q20, .inl (tc.1, 8, .inl (fun _ => 0))), (q21, .inl (tc.1, 40, .inl (fun _ => 0))), (q22, .inl (tc.1, 66, .inl (fun _ => 0))), (q23, .inl (tc.1, 66, .inl (fun _ => 0))), (q24, .inl (tc.1, 300, .inl (fun _ => 0))), (q25, .inl (tc.1, 300, .inl (fun _ => 0))), (q26, .inl (tc.1, 300, .inl (fun _ => 0))), (q27, .inl (tc.1, 300, .inl (fun _ => 0))), (q28, .inl (tc.1, 300, .inl (fun _ => 0))), (q29, .inl (tc.1, 300, .inl (fun _ => 0))), (q30, .inl (tc.1, 8, .inl (upd (fun _ => 0) 0 1)))]) rfl ?_
  refine j_dup C d12_init_252 rfl ?_
  refine j_const C d12_init_253 ?_
  refine j_const C d12_init_254 ?_
  refine j_iastK (j := 1) C d12_init_255 30 rfl rfl (Nat.le_of_ble_eq_true rfl) (Nat.le_of_ble_eq_true rfl) (ws' := [(h_, .inr (12, (.int 0 :: .ref q1 :: .ref q2 :: .ref q3 :: .int 0 :: .ref q4 :: .ref q5 :: .ref q6 :: .ref q7 :: .int 0 :: .ref q8 :: .ref q9 :: .ref q10 :: .int 0 :: .int 0 :: .ref q11 :: .ref q12 :: .int 0 :: .int 0 :: .ref q13 :: .ref q14 :: .ref q15 :: .ref q16 :: .ref q17 :: .int 0 :: .int 0 :: .int 0 :: .int 0 :: .int 0 :: .ref q18 :: .ref q19 :: .ref q20 :: .ref q21 :: .int 0 :: .ref q22 :: .ref q23 :: .int 0 :: .int 0 :: .int 0 :: .int 0 :: .ref q24 :: .int 0 :: .int 0 :: .ref q25 :: .ref q26 :: .int 0 :: .ref q27 :: .ref q28 :: .ref q29 :: .null :: .null :: .null :: .null :: .null :: .null :: .int 0 :: []))), (q1, .inl (tc.1, 24, .inl (fun _ => 0))), (q2, .inl (tc.1, 24, .inl (fun _ => 0))), (q3, .inl (tc.1, 120, .inl (fun _ => 0))), (q4, .inl (tc.1, 10, .inl (fun _ => 0))), (q5, .inl (tc.1, 240, .inl (fun _ => 0))), (q6, .inl (tc.1, 240, .inl (fun _ => 0))), (q7, .inl (tc.1, 1200, .inl (fun _ => 0))), (q8, .inl (tc.1, 3, .inl (fun _ => 0))), (q9, .inl (tc.1, 3, .inl (fun _ => 0))), (q10, .inl (tc.1, 5, .inl (fun _ => 0))), (q11, .inl (tc.1, 8, .inl (fun _ => 0))), (q12, .inl (tc.1, 8, .inl (fun _ => 0))), (q13, .inl (tc.1, 8, .inl (fun _ => 0))), (q14, .inl (tc.1, 8, .inl (fun _ => 0))), (q15, .inl (tc.1, 1280, .inl (fun _ => 0))), (q16, .inl (tc.1, 32, .inl (fun _ => 0))), (q17, .inl (tc.1, 40, .inl (fun _ => 0))), (q18, .inl (tc.1, 120, .inl (fun _ => 0))), (q19, .inl (tc.1, 24, .inl (fun _ => 0))), (q20, .inl (tc.1, 8, .inl (fun _ => 0))), (q21, .inl (tc.1, 40, .inl (fun _ => 0))), (q22, .inl (tc.1, 66, .inl (fun _ => 0))), (q23, .inl (tc.1, 66, .inl (fun _ => 0))), (q24, .inl (tc.1, 300, .inl (fun _ => 0))), (q25, .inl (tc.1, 300, .inl (fun _ => 0))), (q26, .inl (tc.1, 300, .inl (fun _ => 0))), (q27, .inl (tc.1, 300, .inl (fun _ => 0))), (q28, .inl (tc.1, 300, .inl (fun _ => 0))), (q29, .inl (tc.1, 300, .inl (fun _ => 0))), (q30, .inl (tc.1, 8, .inl (upd (upd (fun _ => 0) 0 1) 1 1)))]) rfl ?_
  refine j_dup C d12_init_256 rfl ?_
  refine j_const C d12_init_257 ?_
  refine j_const C d12_init_258 ?_
  refine j_iastK (j := 2) C d12_init_259 30 rfl rfl (Nat.le_of_ble_eq_true rfl) (Nat.le_of_ble_eq_true rfl) (ws' := [(h_, .inr (12, (.int 0 :: .ref q1 :: .ref q2 :: .ref q3 :: .int 0 :: .ref q4 :: .ref q5 :: .ref q6 :: .ref q7 :: .int 0 :: .ref q8 :: .ref q9 :: .ref q10 :: .int 0 :: .int 0 :: .ref q11 :: .ref q12 :: .int 0 :: .int 0 :: .ref q13 :: .ref q14 :: .ref q15 :: .ref q16 :: .ref q17 :: .int 0 :: .int 0 :: .int 0 :: .int 0 :: .int 0 :: .ref q18 :: .ref q19 :: .ref q20 :: .ref q21 :: .int 0 :: .ref q22 :: .ref q23 :: .int 0 :: .int 0 :: .int 0 :: .int 0 :: .ref q24 :: .int 0 :: .int 0 :: .ref q25 :: .ref q26 :: .int 0 :: .ref q27 :: .ref q28 :: .ref q29 :: .null :: .null :: .null :: .null :: .null :: .null :: .int 0 :: []))), (q1, .inl (tc.1, 24, .inl (fun _ => 0))), (q2, .inl (tc.1, 24, .inl (fun _ => 0))), (q3, .inl (tc.1, 120, .inl (fun _ => 0))), (q4, .inl (tc.1, 10, .inl (fun _ => 0))), (q5, .inl (tc.1, 240, .inl (fun _ => 0))), (q6, .inl (tc.1, 240, .inl (fun _ => 0))), (q7, .inl (tc.1, 1200, .inl (fun _ => 0))), (q8, .inl (tc.1, 3, .inl (fun _ => 0))), (q9, .inl (tc.1, 3, .inl (fun _ => 0))), (q10, .inl (tc.1, 5, .inl (fun _ => 0))), (q11, .inl (tc.1, 8, .inl (fun _ => 0))), (q12, .inl (tc.1, 8, .inl (fun _ => 0))), (q13, .inl (tc.1, 8, .inl (fun _ => 0))), (q14, .inl (tc.1, 8, .inl (fun _ => 0))), (q15, .inl (tc.1, 1280, .inl (fun _ => 0))), (q16, .inl (tc.1, 32, .inl (fun _ => 0))), (q17, .inl (tc.1, 40, .inl (fun _ => 0))), (q18, .inl (tc.1, 120, .inl (fun _ => 0))), (q19, .inl (tc.1, 24, .inl (fun _ => 0))), (q20, .inl (tc.1, 8, .inl (fun _ => 0))), (q21, .inl (tc.1, 40, .inl (fun _ => 0))), (q22, .inl (tc.1, 66, .inl (fun _ => 0))), (q23, .inl (tc.1, 66, .inl (fun _ => 0))), (q24, .inl (tc.1, 300, .inl (fun _ => 0))), (q25, .inl (tc.1, 300, .inl (fun _ => 0))), (q26, .inl (tc.1, 300, .inl (fun _ => 0))), (q27, .inl (tc.1, 300, .inl (fun _ => 0))), (q28, .inl (tc.1, 300, .inl (fun _ => 0))), (q29, .inl (tc.1, 300, .inl (fun _ => 0))), (q30, .inl (tc.1, 8, .inl (upd (upd (upd (fun _ => 0) 0 1) 1 1) 2 1)))]) rfl ?_
  refine j_dup C d12_init_260 rfl ?_
  refine j_const C d12_init_261 ?_
  refine j_const C d12_init_262 ?_
  refine j_iastK (j := 3) C d12_init_263 30 rfl rfl (Nat.le_of_ble_eq_true rfl) (Nat.le_of_ble_eq_true rfl) (ws' := [(h_, .inr (12, (.int 0 :: .ref q1 :: .ref q2 :: .ref q3 :: .int 0 :: .ref q4 :: .ref q5 :: .ref q6 :: .ref q7 :: .int 0 :: .ref q8 :: .ref q9 :: .ref q10 :: .int 0 :: .int 0 :: .ref q11 :: .ref q12 :: .int 0 :: .int 0 :: .ref q13 :: .ref q14 :: .ref q15 :: .ref q16 :: .ref q17 :: .int 0 :: .int 0 :: .int 0 :: .int 0 :: .int 0 :: .ref q18 :: .ref q19 :: .ref q20 :: .ref q21 :: .int 0 :: .ref q22 :: .ref q23 :: .int 0 :: .int 0 :: .int 0 :: .int 0 :: .ref q24 :: .int 0 :: .int 0 :: .ref q25 :: .ref q26 :: .int 0 :: .ref q27 :: .ref q28 :: .ref q29 :: .null :: .null :: .null :: .null :: .null :: .null :: .int 0 :: []))), (q1, .inl (tc.1, 24, .inl (fun _ => 0))), (q2, .inl (tc.1, 24, .inl (fun _ => 0))), (q3, .inl (tc.1, 120, .inl (fun _ => 0))), (q4, .inl (tc.1, 10, .inl (fun _ => 0))), (q5, .inl (tc.1, 240, .inl (fun _ => 0))), (q6, .inl (tc.1, 240, .inl (fun _ => 0))), (q7, .inl (tc.1, 1200, .inl (fun _ => 0))), (q8, .inl (tc.1, 3, .inl (fun _ => 0))), (q9, .inl (tc.1, 3, .inl (fun _ => 0))), (q10, .inl (tc.1, 5, .inl (fun _ => 0))), (q11, .inl (tc.1, 8, .inl (fun _ => 0))), (q12, .inl (tc.1, 8, .inl (fun _ => 0))), (q13, .inl (tc.1, 8, .inl (fun _ => 0))), (q14, .inl (tc.1, 8, .inl (fun _ => 0))), (q15, .inl (tc.1, 1280, .inl (fun _ => 0))), (q16, .inl (tc.1, 32, .inl (fun _ => 0))), (q17, .inl (tc.1, 40, .inl (fun _ => 0))), (q18, .inl (tc.1, 120, .inl (fun _ => 0))), (q19, .inl (tc.1, 24, .inl (fun _ => 0))), (q20, .inl (tc.1, 8, .inl (fun _ => 0))), (q21, .inl (tc.1, 40, .inl (fun _ => 0))), (q22, .inl (tc.1, 66, .inl (fun _ => 0))), (q23, .inl (tc.1, 66, .inl (fun _ => 0))), (q24, .inl (tc.1, 300, .inl (fun _ => 0))), (q25, .inl (tc.1, 300, .inl (fun _ => 0))), (q26, .inl (tc.1, 300, .inl (fun _ => 0))), (q27, .inl (tc.1, 300, .inl (fun _ => 0))), (q28, .inl (tc.1, 300, .inl (fun _ => 0))), (q29, .inl (tc.1, 300, .inl (fun _ => 0))), (q30, .inl (tc.1, 8, .inl (upd (upd (upd (upd (fun _ => 0) 0 1) 1 1) 2 1) 3 1)))]) rfl ?_
  refine j_dup C d12_init_264 rfl ?_
  refine j_const C d12_init_265 ?_
  refine j_const C d12_init_266 ?_
  refine j_iastK (j := 4) C d12_init_267 30 rfl rfl (Nat.le_of_ble_eq_true rfl) (Nat.le_of_ble_eq_true rfl) (ws' := [(h_, .inr (12, (.int 0 :: .ref q1 :: .ref q2 :: .ref q3 :: .int 0 :: .ref q4 :: .ref q5 :: .ref q6 :: .ref q7 :: .int 0 :: .ref q8 :: .ref q9 :: .ref q10 :: .int 0 :: .int 0 :: .ref q11 :: .ref q12 :: .int 0 :: .int 0 :: .ref q13 :: .ref q14 :: .ref q15 :: .ref q16 :: .ref q17 :: .int 0 :: .int 0 :: .int 0 :: .int 0 :: .int 0 :: .ref q18 :: .ref q19 :: .ref q20 :: .ref q21 :: .int 0 :: .ref q22 :: .ref q23 :: .int 0 :: .int 0 :: .int 0 :: .int 0 :: .ref q24 :: .int 0 :: .int 0 :: .ref q25 :: .ref q26 :: .int 0 :: .ref q27 :: .ref q28 :: .ref q29 :: .null :: .null :: .null :: .null :: .null :: .null :: .int 0 :: []))), (q1, .inl (tc.1, 24, .inl (fun _ => 0))), (q2, .inl (tc.1, 24, .inl (fun _ => 0))), (q3, .inl (tc.1, 120, .inl (fun _ => 0))), (q4, .inl (tc.1, 10, .inl (fun _ => 0))), (q5, .inl (tc.1, 240, .inl (fun _ => 0))), (q6, .inl (tc.1, 240, .inl (fun _ => 0))), (q7, .inl (tc.1, 1200, .inl (fun _ => 0))), (q8, .inl (tc.1, 3, .inl (fun _ => 0))), (q9, .inl (tc.1, 3, .inl (fun _ => 0))), (q10, .inl (tc.1, 5, .inl (fun _ => 0))), (q11, .inl (tc.1, 8, .inl (fun _ => 0))), (q12, .inl (tc.1, 8, .inl (fun _ => 0))), (q13, .inl (tc.1, 8, .inl (fun _ => 0))), (q14, .inl (tc.1, 8, .inl (fun _ => 0))), (q15, .inl (tc.1, 1280, .inl (fun _ => 0))), (q16, .inl (tc.1, 32, .inl (fun _ => 0))), (q17, .inl (tc.1, 40, .inl (fun _ => 0))), (q18, .inl (tc.1, 120, .inl (fun _ => 0))), (q19, .inl (tc.1, 24, .inl (fun _ => 0))), (q20, .inl (tc.1, 8, .inl (fun _ => 0))), (q21, .inl (tc.1, 40, .inl (fun _ => 0))), (q22, .inl (tc.1, 66, .inl (fun _ => 0))), (q23, .inl (tc.1, 66, .inl (fun _ => 0))), (q24, .inl (tc.1, 300, .inl (fun _ => 0))), (q25, .inl (tc.1, 300, .inl (fun _ => 0))), (q26, .inl (tc.1, 300, .inl (fun _ => 0))), (q27, .inl (tc.1, 300, .inl (fun _ => 0))), (q28, .inl (tc.1, 300, .inl (fun _ => 0))), (q29, .inl (tc.1, 300, .inl (fun _ => 0))), (q30, .inl (tc.1, 8, .inl (upd (upd (upd (upd (upd (fun _ => 0) 0 1) 1 1) 2 1) 3 1) 4 1)))]) rfl ?_
  refine j_dup C d12_init_268 rfl ?_
  refine j_const C d12_init_269 ?_
  refine j_const C d12_init_270 ?_
  refine j_iastK (j := 5) C d12_init_271 30 rfl rfl (Nat.le_of_ble_eq_true rfl) (Nat.le_of_ble_eq_true rfl) (ws' := [(h_, .inr (12, (.int 0 :: .ref q1 :: .ref q2 :: .ref q3 :: .int 0 :: .ref q4 :: .ref q5 :: .ref q6 :: .ref q7 :: .int 0 :: .ref q8 :: .ref q9 :: .ref q10 :: .int 0 :: .int 0 :: .ref q11 :: .ref q12 :: .int 0 :: .int 0 :: .ref q13 :: .ref q14 :: .ref q15 :: .ref q16 :: .ref q17 :: .int 0 :: .int 0 :: .int 0 :: .int 0 :: .int 0 :: .ref q18 :: .ref q19 :: .ref q20 :: .ref q21 :: .int 0 :: .ref q22 :: .ref q23 :: .int 0 :: .int 0 :: .int 0 :: .int 0 :: .ref q24 :: .int 0 :: .int 0 :: .ref q25 :: .ref q26 :: .int 0 :: .ref q27 :: .ref q28 :: .ref q29 :: .null :: .null :: .null :: .null :: .null :: .null :: .int 0 :: []))), (q1, .inl (tc.1, 24, .inl (fun _ => 0))), (q2, .inl (tc.1, 24, .inl (fun _ => 0))), (q3, .inl (tc.1, 120, .inl (fun _ => 0))), (q4, .inl (tc.1, 10, .inl (fun _ => 0))), (q5, .inl (tc.1, 240, .inl (fun _ => 0))), (q6, .inl (tc.1, 240, .inl (fun _ => 0))), (q7, .inl (tc.1, 1200, .inl (fun _ => 0))), (q8, .inl (tc.1, 3, .inl (fun _ => 0))), (q9, .inl (tc.1, 3, .inl (fun _ => 0))), (q10, .inl (tc.1, 5, .inl (fun _ => 0))), (q11, .inl (tc.1, 8, .inl (fun _ => 0))), (q12, .inl (tc.1, 8, .inl (fun _ => 0))), (q13, .inl (tc.1, 8, .inl (fun _ => 0))), (q14, .inl (tc.1, 8, .inl (fun _ => 0))), (q15, .inl (tc.1, 1280, .inl (fun _ => 0))), (q16, .inl (tc.1, 32, .inl (fun _ => 0))), (q17, .inl (tc.1, 40, .inl (fun _ => 0))), (q18, .inl (tc.1, 120, .inl (fun _ => 0))), (q19, .inl (tc.1, 24, .inl (fun _ => 0))), (q20, .inl (tc.1, 8, .inl (fun _ => 0))), (q21, .inl (tc.1, 40, .inl (fun _ => 0))), (q22, .inl (tc.1, 66, .inl (fun _ => 0))), (q23, .inl (tc.1, 66, .inl (fun _ => 0))), (q24, .inl (tc.1, 300, .inl (fun _ => 0))), (q25, .inl (tc.1, 300, .inl (fun _ => 0))), (q26, .inl (tc.1, 300, .inl (fun _ => 0))), (q27, .inl (tc.1, 300, .inl (fun _ => 0))), (q28, .inl (tc.1, 300, .inl (fun _ => 0))), (q29, .inl (tc.1, 300, .inl (fun _ => 0))), (q30, .inl (tc.1, 8, .inl (upd (upd (upd (upd (upd (upd (fun _ => 0) 0 1) 1 1) 2 1) 3 1) 4 1) 5 1)))]) rfl ?_
  refine j_dup C d12_init_272 rfl ?_
  refine j_const C d12_init_273 ?_
  refine j_const C d12_init_275 ?_
  refine j_iastK (j := 6) C d12_init_276 30 rfl rfl (Nat.le_of_ble_eq_true rfl) (Nat.le_of_ble_eq_true rfl) (ws' := [(h_, .inr (12, (.int 0 :: .ref q1 :: .ref q2 :: .ref q3 :: .int 0 :: .ref q4 :: .ref q5 :: .ref q6 :: .ref q7 :: .int 0 :: .ref q8 :: .ref q9 :: .ref q10 :: .int 0 :: .int 0 :: .ref q11 :: .ref q12 :: .int 0 :: .int 0 :: .ref q13 :: .ref q14 :: .ref q15 :: .ref q16 :: .ref q17 :: .int 0 :: .int 0 :: .int 0 :: .int 0 :: .int 0 :: .ref q18 :: .ref q19 :: .ref q20 :: .ref q21 :: .int 0 :: .ref q22 :: .ref q23 :: .int 0 :: .int 0 :: .int 0 :: .int 0 :: .ref q24 :: .int 0 :: .int 0 :: .ref q25 :: .ref q26 :: .int 0 :: .ref q27 :: .ref q28 :: .ref q29 :: .null :: .null :: .null :: .null :: .null :: .null :: .int 0 :: []))), (q1, .inl (tc.1, 24, .inl (fun _ => 0))), (q2, .inl (tc.1, 24, .inl (fun _ => 0))), (q3, .inl (tc.1, 120, .inl (fun _ => 0))), (q4, .inl (tc.1, 10, .inl (fun _ => 0))), (q5, .inl (tc.1, 240, .inl (fun _ => 0))), (q6, .inl (tc.1, 240, .inl (fun _ => 0))), (q7, .inl (tc.1, 1200, .inl (fun _ => 0))), (q8, .inl (tc.1, 3, .inl (fun _ => 0))), (q9, .inl (tc.1, 3, .inl (fun _ => 0))), (q10, .inl (tc.1, 5, .inl (fun _ => 0))), (q11, .inl (tc.1, 8, .inl (fun _ => 0))), (q12, .inl (tc.1, 8, .inl (fun _ => 0))), (q13, .inl (tc.1, 8, .inl (fun _ => 0))), (q14, .inl (tc.1, 8, .inl (fun _ => 0))), (q15, .inl (tc.1, 1280, .inl (fun _ => 0))), (q16, .inl (tc.1, 32, .inl (fun _ => 0))), (q17, .inl (tc.1, 40, .inl (fun _ => 0))), (q18, .inl (tc.1, 120, .inl (fun _ => 0))), (q19, .inl (tc.1, 24, .inl (fun _ => 0))), (q20, .inl (tc.1, 8, .inl (fun _ => 0))), (q21, .inl (tc.1, 40, .inl (fun _ => 0))), (q22, .inl (tc.1, 66, .inl (fun _ => 0))), (q23, .inl (tc.1, 66, .inl (fun _ => 0))), (q24, .inl (tc.1, 300, .inl (fun _ => 0))), (q25, .inl (tc.1, 300, .inl (fun _ => 0))), (q26, .inl (tc.1, 300, .inl (fun _ => 0))), (q27, .inl (tc.1, 300, .inl (fun _ => 0))), (q28, .inl (tc.1, 300, .inl (fun _ => 0))), (q29, .inl (tc.1, 300, .inl (fun _ => 0))), (q30, .inl (tc.1, 8, .inl (upd (upd (upd (upd (upd (upd (upd (fun _ => 0) 0 1) 1 1) 2 1) 3 1) 4 1) 5 1) 6 1)))]) rfl ?_
  refine j_dup C d12_init_277 rfl ?_
  refine j_const C d12_init_278 ?_
  refine j_const C d12_init_280 ?_
  refine j_iastK (j := 7) C d12_init_281 30 rfl rfl (Nat.le_of_ble_eq_true rfl) (Nat.le_of_ble_eq_true rfl) (ws' := [(h_, .inr (12, (.int 0 :: .ref q1 :: .ref q2 :: .ref q3 :: .int 0 :: .ref q4 :: .ref q5 :: .ref q6 :: .ref q7 :: .int 0 :: .ref q8 :: .ref q9 :: .ref q10 :: .int 0 :: .int 0 :: .ref q11 :: .ref q12 :: .int 0 :: .int 0 :: .ref q13 :: .ref q14 :: .ref q15 :: .ref q16 :: .ref q17 :: .int 0 :: .int 0 :: .int 0 :: .int 0 :: .int 0 :: .ref q18 :: .ref q19 :: .ref q20 :: .ref q21 :: .int 0 :: .ref q22 :: .ref q23 :: .int 0 :: .int 0 :: .int 0 :: .int 0 :: .ref q24 :: .int 0 :: .int 0 :: .ref q25 :: .ref q26 :: .int 0 :: .ref q27 :: .ref q28 :: .ref q29 :: .null :: .null :: .null :: .null :: .null :: .null :: .int 0 :: []))), (q1, .inl (tc.1, 24, .inl (fun _ => 0))), (q2, .inl (tc.1, 24, .inl (fun _ => 0))), (q3, .inl (tc.1, 120, .inl (fun _ => 0))), (q4, .inl (tc.1, 10, .inl (fun _ => 0))), (q5, .inl (tc.1, 240, .inl (fun _ => 0))), (q6, .inl (tc.1, 240, .inl (fun _ => 0))), (q7, .inl (tc.1, 1200, .inl (fun _ => 0))), (q8, .inl (tc.1, 3, .inl (fun _ => 0))), (q9, .inl (tc.1, 3, .inl (fun _ => 0))), (q10, .inl (tc.1, 5, .inl (fun _ => 0))), (q11, .inl (tc.1, 8, .inl (fun _ => 0))), (q12, .inl (tc.1, 8, .inl (fun _ => 0))), (q13, .inl (tc.1, 8, .inl (fun _ => 0))), (q14, .inl (tc.1, 8, .inl (fun _ => 0))), (q15, .inl (tc.1, 1280, .inl (fun _ => 0))), (q16, .inl (tc.1, 32, .inl (fun _ => 0))), (q17, .inl (tc.1, 40, .inl (fun _ => 0))), (q18, .inl (tc.1, 120, .inl (fun _ => 0))), (q19, .inl (tc.1, 24, .inl (fun _ => 0))), (q20, .inl (tc.1, 8, .inl (fun _ => 0))), (q21, .inl (tc.1, 40, .inl (fun _ => 0))), (q22, .inl (tc.1, 66, .inl (fun _ => 0))), (q23, .inl (tc.1, 66, .inl (fun _ => 0))), (q24, .inl (tc.1, 300, .inl (fun _ => 0))), (q25, .inl (tc.1, 300, .inl (fun _ => 0))), (q26, .inl (tc.1, 300, .inl (fun _ => 0))), (q27, .inl (tc.1, 300, .inl (fun _ => 0))), (q28, .inl (tc.1, 300, .inl (fun _ => 0))), (q29, .inl (tc.1, 300, .inl (fun _ => 0))), (q30, .inl (tc.1, 8, .inl (upd (upd (upd (upd (upd (upd (upd (upd (fun _ => 0) 0 1) 1 1) 2 1) 3 1) 4 1) 5 1) 6 1) 7 1)))]) rfl ?_
  refine j_putF C hin d12_init_282 fp12_97 0 rfl rfl rfl (Nat.le_of_ble_eq_true rfl) (ws' := [(h_, .inr (12, (.int 0 :: .ref q1 :: .ref q2 :: .ref q3 :: .int 0 :: .ref q4 :: .ref q5 :: .ref q6 :: .ref q7 :: .int 0 :: .ref q8 :: .ref q9 :: .ref q10 :: .int 0 :: .int 0 :: .ref q11 :: .ref q12 :: .int 0 :: .int 0 :: .ref q13 :: .ref q14 :: .ref q15 :: .ref q16 :: .ref q17 :: .int 0 :: .int 0 :: .int 0 :: .int 0 :: .int 0 :: .ref q18 :: .ref q19 :: .ref q20 :: .ref q21 :: .int 0 :: .ref q22 :: .ref q23 :: .int 0 :: .int 0 :: .int 0 :: .int 0 :: .ref q24 :: .int 0 :: .int 0 :: .ref q25 :: .ref q26 :: .int 0 :: .ref q27 :: .ref q28 :: .ref q29 :: .ref q30 :: .null :: .null :: .null :: .null :: .null :: .int 0 :: []))), (q1, .inl (tc.1, 24, .inl (fun _ => 0))), (q2, .inl (tc.1, 24, .inl (fun _ => 0))), (q3, .inl (tc.1, 120, .inl (fun _ => 0))), (q4, .inl (tc.1, 10, .inl (fun _ => 0))), (q5, .inl (tc.1, 240, .inl (fun _ => 0))), (q6, .inl (tc.1, 240, .inl (fun _ => 0))), (q7, .inl (tc.1, 1200, .inl (fun _ => 0))), (q8, .inl (tc.1, 3, .inl (fun _ => 0))), (q9, .inl (tc.1, 3, .inl (fun _ => 0))), (q10, .inl (tc.1, 5, .inl (fun _ => 0))), (q11, .inl (tc.1, 8, .inl (fun _ => 0))), (q12, .inl (tc.1, 8, .inl (fun _ => 0))), (q13, .inl (tc.1, 8, .inl (fun _ => 0))), (q14, .inl (tc.1, 8, .inl (fun _ => 0))), (q15, .inl (tc.1, 1280, .inl (fun _ => 0))), (q16, .inl (tc.1, 32, .inl (fun _ => 0))), (q17, .inl (tc.1, 40, .inl (fun _ => 0))), (q18, .inl (tc.1, 120, .inl (fun _ => 0))), (q19, .inl (tc.1, 24, .inl (fun _ => 0))), (q20, .inl (tc.1, 8, .inl (fun _ => 0))), (q21, .inl (tc.1, 40, .inl (fun _ => 0))), (q22, .inl (tc.1, 66, .inl (fun _ => 0))), (q23, .inl (tc.1, 66, .inl (fun _ => 0))), (q24, .inl (tc.1, 300, .inl (fun _ => 0))), (q25, .inl (tc.1, 300, .inl (fun _ => 0))), (q26, .inl (tc.1, 300, .inl (fun _ => 0))), (q27, .inl (tc.1, 300, .inl (fun _ => 0))), (q28, .inl (tc.1, 300, .inl (fun _ => 0))), (q29, .inl (tc.1, 300, .inl (fun _ => 0))), (q30, .inl (tc.1, 8, .inl (upd (upd (upd (upd (upd (upd (upd (upd (fun _ => 0) 0 1) 1 1) 2 1) 3 1) 4 1) 5 1) 6 1) 7 1)))]) rfl ?_
  refine j_aload C d12_init_285 0 rfl ?_
  refine j_const C d12_init_286 ?_
  refine j_newi (N := 25920) C (fun q31 => ((h_, .inr (12, (.int 0 :: .ref q1 :: .ref q2 :: .ref q3 :: .int 0 :: .ref q4 :: .ref q5 :: .ref q6 :: .ref q7 :: .int 0 :: .ref q8 :: .ref q9 :: .ref q10 :: .int 0 :: .int 0 :: .ref q11 :: .ref q12 :: .int 0 :: .int 0 :: .ref q13 :: .ref q14 :: .ref q15 :: .ref q16 :: .ref q17 :: .int 0 :: .int 0 :: .int 0 :: .int 0 :: .int 0 :: .ref q18 :: .ref q19 :: .ref q20 :: .ref q21 :: .int 0 :: .ref q22 :: .ref q23 :: .int 0 :: .int 0 :: .int 0 :: .int 0 :: .ref q24 :: .int 0 :: .int 0 :: .ref q25 :: .ref q26 :: .int 0 :: .ref q27 :: .ref q28 :: .ref q29 :: .ref q30 :: .null :: .null :: .null :: .null :: .null :: .int 0 :: []))) :: (q1, .inl (tc.1, 24, .inl (fun _ => 0))) :: (q2, .inl (tc.1, 24, .inl (fun _ => 0))) :: (q3, .inl (tc.1, 120, .inl (fun _ => 0))) :: (q4, .inl (tc.1, 10, .inl (fun _ => 0))) :: (q5, .inl (tc.1, 240, .inl (fun _ => 0))) :: (q6, .inl (tc.1, 240, .inl (fun _ => 0))) :: (q7, .inl (tc.1, 1200, .inl (fun _ => 0))) :: (q8, .inl (tc.1, 3, .inl (fun _ => 0))) :: (q9, .inl (tc.1, 3, .inl (fun _ => 0))) :: (q10, .inl (tc.1, 5, .inl (fun _ => 0))) :: (q11, .inl (tc.1, 8, .inl (fun _ => 0))) :: (q12, .inl (tc.1, 8, .inl (fun _ => 0))) :: (q13, .inl (tc.1, 8, .inl (fun _ => 0))) :: (q14, .inl (tc.1, 8, .inl (fun _ => 0))) :: (q15, .inl (tc.1, 1280, .inl (fun _ => 0))) :: (q16, .inl (tc.1, 32, .inl (fun _ => 0))) :: (q17, .inl (tc.1, 40, .inl (fun _ => 0))) :: (q18, .inl (tc.1, 120, .inl (fun _ => 0))) :: (q19, .inl (tc.1, 24, .inl (fun _ => 0))) :: (q20, .inl (tc.1, 8, .inl (fun _ => 0))) :: (q21, .inl (tc.1, 40, .inl (fun _ => 0))) :: (q22, .inl (tc.1, 66, .inl (fun _ => 0))) :: (q23, .inl (tc.1, 66, .inl (fun _ => 0))) :: (q24, .inl (tc.1, 300, .inl (fun _ => 0))) :: (q25, .inl (tc.1, 300, .inl (fun _ => 0))) :: (q26, .inl (tc.1, 300, .inl (fun _ => 0))) :: (q27, .inl (tc.1, 300, .inl (fun _ => 0))) :: (q28, .inl (tc.1, 300, .inl (fun _ => 0))) :: (q29, .inl (tc.1, 300, .inl (fun _ => 0))) :: (q30, .inl (tc.1, 8, .inl (upd (upd (upd (upd (upd (upd (upd (upd (fun _ => 0) 0 1) 1 1) 2 1) 3 1) 4 1) 5 1) 6 1) 7 1))) :: (q31, .inl (tc.1, 25920, .inl (fun _ => 0))) :: [])) d12_init_289 lw_aI rfl (Nat.le_of_ble_eq_true rfl) ⟨(Nat.le_of_ble_eq_true rfl), (Nat.le_of_ble_eq_true rfl)⟩ (fun _ => rfl) (fun q31 => ?_)
  refine j_putF C hin d12_init_291 fp12_100 0 rfl rfl rfl (Nat.le_of_ble_eq_true rfl) (ws' := ((h_, .inr (12, (.int 0 :: .ref q1 :: .ref q2 :: .ref q3 :: .int 0 :: .ref q4 :: .ref q5 :: .ref q6 :: .ref q7 :: .int 0 :: .ref q8 :: .ref q9 :: .ref q10 :: .int 0 :: .int 0 :: .ref q11 :: .ref q12 :: .int 0 :: .int 0 :: .ref q13 :: .ref q14 :: .ref q15 :: .ref q16 :: .ref q17 :: .int 0 :: .int 0 :: .int 0 :: .int 0 :: .int 0 :: .ref q18 :: .ref q19 :: .ref q20 :: .ref q21 :: .int 0 :: .ref q22 :: .ref q23 :: .int 0 :: .int 0 :: .int 0 :: .int 0 :: .ref q24 :: .int 0 :: .int 0 :: .ref q25 :: .ref q26 :: .int 0 :: .ref q27 :: .ref q28 :: .ref q29 :: .ref q30 :: .ref q31 :: .null :: .null :: .null :: .null :: .int 0 :: []))) :: (q1, .inl (tc.1, 24, .inl (fun _ => 0))) :: (q2, .inl (tc.1, 24, .inl (fun _ => 0))) :: (q3, .inl (tc.1, 120, .inl (fun _ => 0))) :: (q4, .inl (tc.1, 10, .inl (fun _ => 0))) :: (q5, .inl (tc.1, 240, .inl (fun _ => 0))) :: (q6, .inl (tc.1, 240, .inl (fun _ => 0))) :: (q7, .inl (tc.1, 1200, .inl (fun _ => 0))) :: (q8, .inl (tc.1, 3, .inl (fun _ => 0))) :: (q9, .inl (tc.1, 3, .inl (fun _ => 0))) :: (q10, .inl (tc.1, 5, .inl (fun _ => 0))) :: (q11, .inl (tc.1, 8, .inl (fun _ => 0))) :: (q12, .inl (tc.1, 8, .inl (fun _ => 0))) :: (q13, .inl (tc.1, 8, .inl (fun _ => 0))) :: (q14, .inl (tc.1, 8, .inl (fun _ => 0))) :: (q15, .inl (tc.1, 1280, .inl (fun _ => 0))) :: (q16, .inl (tc.1, 32, .inl (fun _ => 0))) :: (q17, .inl (tc.1, 40, .inl (fun _ => 0))) :: (q18, .inl (tc.1, 120, .inl (fun _ => 0))) :: (q19, .inl (tc.1, 24, .inl (fun _ => 0))) :: (q20, .inl (tc.1, 8, .inl (fun _ => 0))) :: (q21, .inl (tc.1, 40, .inl (fun _ => 0))) :: (q22, .inl (tc.1, 66, .inl (fun _ => 0))) :: (q23, .inl (tc.1, 66, .inl (fun _ => 0))) :: (q24, .inl (tc.1, 300, .inl (fun _ => 0))) :: (q25, .inl (tc.1, 300, .inl (fun _ => 0))) :: (q26, .inl (tc.1, 300, .inl (fun _ => 0))) :: (q27, .inl (tc.1, 300, .inl (fun _ => 0))) :: (q28, .inl (tc.1, 300, .inl (fun _ => 0))) :: (q29, .inl (tc.1, 300, .inl (fun _ => 0))) :: (q30, .inl (tc.1, 8, .inl (upd (upd (upd (upd (upd (upd (upd (upd (fun _ => 0) 0 1) 1 1) 2 1) 3 1) 4 1) 5 1) 6 1) 7 1))) :: (q31, .inl (tc.1, 25920, .inl (fun _ => 0))) :: [])) rfl ?_
  refine j_aload C d12_init_294 0 rfl ?_
  refine j_const C d12_init_295 ?_
  refine j_newi (N := 648) C (fun q32 => ((h_, .inr (12, (.int 0 :: .ref q1 :: .ref q2 :: .ref q3 :: .int 0 :: .ref q4 :: .ref q5 :: .ref q6 :: .ref q7 :: .int 0 :: .ref q8 :: .ref q9 :: .ref q10 :: .int 0 :: .int 0 :: .ref q11 :: .ref q12 :: .int 0 :: .int 0 :: .ref q13 :: .ref q14 :: .ref q15 :: .ref q16 :: .ref q17 :: .int 0 :: .int 0 :: .int 0 :: .int 0 :: .int 0 :: .ref q18 :: .ref q19 :: .ref q20 :: .ref q21 :: .int 0 :: .ref q22 :: .ref q23 :: .int 0 :: .int 0 :: .int 0 :: .int 0 :: .ref q24 :: .int 0 :: .int 0 :: .ref q25 :: .ref q26 :: .int 0 :: .ref q27 :: .ref q28 :: .ref q29 :: .ref q30 :: .ref q31 :: .null :: .null :: .null :: .null :: .int 0 :: []))) :: (q1, .inl (tc.1, 24, .inl (fun _ => 0))) :: (q2, .inl (tc.1, 24, .inl (fun _ => 0))) :: (q3, .inl (tc.1, 120, .inl (fun _ => 0))) :: (q4, .inl (tc.1, 10, .inl (fun _ => 0))) :: (q5, .inl (tc.1, 240, .inl (fun _ => 0))) :: (q6, .inl (tc.1, 240, .inl (fun _ => 0))) :: (q7, .inl (tc.1, 1200, .inl (fun _ => 0))) :: (q8, .inl (tc.1, 3, .inl (fun _ => 0))) :: (q9, .inl (tc.1, 3, .inl (fun _ => 0))) :: (q10, .inl (tc.1, 5, .inl (fun _ => 0))) :: (q11, .inl (tc.1, 8, .inl (fun _ => 0))) :: (q12, .inl (tc.1, 8, .inl (fun _ => 0))) :: (q13, .inl (tc.1, 8, .inl (fun _ => 0))) :: (q14, .inl (tc.1, 8, .inl (fun _ => 0))) :: (q15, .inl (tc.1, 1280, .inl (fun _ => 0))) :: (q16, .inl (tc.1, 32, .inl (fun _ => 0))) :: (q17, .inl (tc.1, 40, .inl (fun _ => 0))) :: (q18, .inl (tc.1, 120, .inl (fun _ => 0))) :: (q19, .inl (tc.1, 24, .inl (fun _ => 0))) :: (q20, .inl (tc.1, 8, .inl (fun _ => 0))) :: (q21, .inl (tc.1, 40, .inl (fun _ => 0))) :: (q22, .inl (tc.1, 66, .inl (fun _ => 0))) :: (q23, .inl (tc.1, 66, .inl (fun _ => 0))) :: (q24, .inl (tc.1, 300, .inl (fun _ => 0))) :: (q25, .inl (tc.1, 300, .inl (fun _ => 0))) :: (q26, .inl (tc.1, 300, .inl (fun _ => 0))) :: (q27, .inl (tc.1, 300, .inl (fun _ => 0))) :: (q28, .inl (tc.1, 300, .inl (fun _ => 0))) :: (q29, .inl (tc.1, 300, .inl (fun _ => 0))) :: (q30, .inl (tc.1, 8, .inl (upd (upd (upd (upd (upd (upd (upd (upd (fun _ => 0) 0 1) 1 1) 2 1) 3 1) 4 1) 5 1) 6 1) 7 1))) :: (q31, .inl (tc.1, 25920, .inl (fun _ => 0))) :: (q32, .inl (tc.1, 648, .inl (fun _ => 0))) :: [])) d12_init_298 lw_aI rfl (Nat.le_of_ble_eq_true rfl) ⟨(Nat.le_of_ble_eq_true rfl), (Nat.le_of_ble_eq_true rfl)⟩ (fun _ => rfl) (fun q32 => ?_)
  refine j_putF C hin d12_init_300 fp12_103 0 rfl rfl rfl (Nat.le_of_ble_eq_true rfl) (ws' := ((h_, .inr (12, (.int 0 :: .ref q1 :: .ref q2 :: .ref q3 :: .int 0 :: .ref q4 :: .ref q5 :: .ref q6 :: .ref q7 :: .int 0 :: .ref q8 :: .ref q9 :: .ref q10 :: .int 0 :: .int 0 :: .ref q11 :: .ref q12 :: .int 0 :: .int 0 :: .ref q13 :: .ref q14 :: .ref q15 :: .ref q16 :: .ref q17 :: .int 0 :: .int 0 :: .int 0 :: .int 0 :: .int 0 :: .ref q18 :: .ref q19 :: .ref q20 :: .ref q21 :: .int 0 :: .ref q22 :: .ref q23 :: .int 0 :: .int 0 :: .int 0 :: .int 0 :: .ref q24 :: .int 0 :: .int 0 :: .ref q25 :: .ref q26 :: .int 0 :: .ref q27 :: .ref q28 :: .ref q29 :: .ref q30 :: .ref q31 :: .ref q32 :: .null :: .null :: .null :: .int 0 :: []))) :: (q1, .inl (tc.1, 24, .inl (fun _ => 0))) :: (q2, .inl (tc.1, 24, .inl (fun _ => 0))) :: (q3, .inl (tc.1, 120, .inl (fun _ => 0))) :: (q4, .inl (tc.1, 10, .inl (fun _ => 0))) :: (q5, .inl (tc.1, 240, .inl (fun _ => 0))) :: (q6, .inl (tc.1, 240, .inl (fun _ => 0))) :: (q7, .inl (tc.1, 1200, .inl (fun _ => 0))) :: (q8, .inl (tc.1, 3, .inl (fun _ => 0))) :: (q9, .inl (tc.1, 3, .inl (fun _ => 0))) :: (q10, .inl (tc.1, 5, .inl (fun _ => 0))) :: (q11, .inl (tc.1, 8, .inl (fun _ => 0))) :: (q12, .inl (tc.1, 8, .inl (fun _ => 0))) :: (q13, .inl (tc.1, 8, .inl (fun _ => 0))) :: (q14, .inl (tc.1, 8, .inl (fun _ => 0))) :: (q15, .inl (tc.1, 1280, .inl (fun _ => 0))) :: (q16, .inl (tc.1, 32, .inl (fun _ => 0))) :: (q17, .inl (tc.1, 40, .inl (fun _ => 0))) :: (q18, .inl (tc.1, 120, .inl (fun _ => 0))) :: (q19, .inl (tc.1, 24, .inl (fun _ => 0))) :: (q20, .inl (tc.1, 8, .inl (fun _ => 0))) :: (q21, .inl (tc.1, 40, .inl (fun _ => 0))) :: (q22, .inl (tc.1, 66, .inl (fun _ => 0))) :: (q23, .inl (tc.1, 66, .inl (fun _ => 0))) :: (q24, .inl (tc.1, 300, .inl (fun _ => 0))) :: (q25, .inl (tc.1, 300, .inl (fun _ => 0))) :: (q26, .inl (tc.1, 300, .inl (fun _ => 0))) :: (q27, .inl (tc.1, 300, .inl (fun _ => 0))) :: (q28, .inl (tc.1, 300, .inl (fun _ => 0))) :: (q29, .inl (tc.1, 300, .inl (fun _ => 0))) :: (q30, .inl (tc.1, 8, .inl (upd (upd (upd (upd (upd (upd (upd (upd (fun _ => 0) 0 1) 1 1) 2 1) 3 1) 4 1) 5 1) 6 1) 7 1))) :: (q31, .inl (tc.1, 25920, .inl (fun _ => 0))) :: (q32, .inl (tc.1, 648, .inl (fun _ => 0))) :: [])) rfl ?_
  refine j_aload C d12_init_303 0 rfl ?_
  refine j_const C d12_init_304 ?_
  refine j_newi (N := 2160) C (fun q33 => ((h_, .inr (12, (.int 0 :: .ref q1 :: .ref q2 :: .ref q3 :: .int 0 :: .ref q4 :: .ref q5 :: .ref q6 :: .ref q7 :: .int 0 :: .ref q8 :: .ref q9 :: .ref q10 :: .int 0 :: .int 0 :: .ref q11 :: .ref q12 :: .int 0 :: .int 0 :: .ref q13 :: .ref q14 :: .ref q15 :: .ref q16 :: .ref q17 :: .int 0 :: .int 0 :: .int 0 :: .int 0 :: .int 0 :: .ref q18 :: .ref q19 :: .ref q20 :: .ref q21 :: .int 0 :: .ref q22 :: .ref q23 :: .int 0 :: .int 0 :: .int 0 :: .int 0 :: .ref q24 :: .int 0 :: .int 0 :: .ref q25 :: .ref q26 :: .int 0 :: .ref q27 :: .ref q28 :: .ref q29 :: .ref q30 :: .ref q31 :: .ref q32 :: .null :: .null :: .null :: .int 0 :: []))) :: (q1, .inl (tc.1, 24, .inl (fun _ => 0))) :: (q2, .inl (tc.1, 24, .inl (fun _ => 0))) :: (q3, .inl (tc.1, 120, .inl (fun _ => 0))) :: (q4, .inl (tc.1, 10, .inl (fun _ => 0))) :: (q5, .inl (tc.1, 240, .inl (fun _ => 0))) :: (q6, .inl (tc.1, 240, .inl (fun _ => 0))) :: (q7, .inl (tc.1, 1200, .inl (fun _ => 0))) :: (q8, .inl (tc.1, 3, .inl (fun _ => 0))) :: (q9, .inl (tc.1, 3, .inl (fun _ => 0))) :: (q10, .inl (tc.1, 5, .inl (fun _ => 0))) :: (q11, .inl (tc.1, 8, .inl (fun _ => 0))) :: (q12, .inl (tc.1, 8, .inl (fun _ => 0))) :: (q13, .inl (tc.1, 8, .inl (fun _ => 0))) :: (q14, .inl (tc.1, 8, .inl (fun _ => 0))) :: (q15, .inl (tc.1, 1280, .inl (fun _ => 0))) :: (q16, .inl (tc.1, 32, .inl (fun _ => 0))) :: (q17, .inl (tc.1, 40, .inl (fun _ => 0))) :: (q18, .inl (tc.1, 120, .inl (fun _ => 0))) :: (q19, .inl (tc.1, 24, .inl (fun _ => 0))) :: (q20, .inl (tc.1, 8, .inl (fun _ => 0))) :: (q21, .inl (tc.1, 40, .inl (fun _ => 0))) :: (q22, .inl (tc.1, 66, .inl (fun _ => 0))) :: (q23, .inl (tc.1, 66, .inl (fun _ => 0))) :: (q24, .inl (tc.1, 300, .inl (fun _ => 0))) :: (q25, .inl (tc.1, 300, .inl (fun _ => 0))) :: (q26, .inl (tc.1, 300, .inl (fun _ => 0))) :: (q27, .inl (tc.1, 300, .inl (fun _ => 0))) :: (q28, .inl (tc.1, 300, .inl (fun _ => 0))) :: (q29, .inl (tc.1, 300, .inl (fun _ => 0))) :: (q30, .inl (tc.1, 8, .inl (upd (upd (upd (upd (upd (upd (upd (upd (fun _ => 0) 0 1) 1 1) 2 1) 3 1) 4 1) 5 1) 6 1) 7 1))) :: (q31, .inl (tc.1, 25920, .inl (fun _ => 0))) :: (q32, .inl (tc.1, 648, .inl (fun _ => 0))) :: (q33, .inl (tc.1, 2160, .inl (fun _ => 0))) :: [])) d12_init_307 lw_aI rfl (Nat.le_of_ble_eq_true rfl) ⟨(Nat.le_of_ble_eq_true rfl), (Nat.le_of_ble_eq_true rfl)⟩ (fun _ => rfl) (fun q33 => ?_)
  refine j_putF C hin d12_init_309 fp12_106 0 rfl rfl rfl (Nat.le_of_ble_eq_true rfl) (ws' := ((h_, .inr (12, (.int 0 :: .ref q1 :: .ref q2 :: .ref q3 :: .int 0 :: .ref q4 :: .ref q5 :: .ref q6 :: .ref q7 :: .int 0 :: .ref q8 :: .ref q9 :: .ref q10 :: .int 0 :: .int 0 :: .ref q11 :: .ref q12 :: .int 0 :: .int 0 :: .ref q13 :: .ref q14 :: .ref q15 :: .ref q16 :: .ref q17 :: .int 0 :: .int 0 :: .int 0 :: .int 0 :: .int 0 :: .ref q18 :: .ref q19 :: .ref q20 :: .ref q21 :: .int 0 :: .ref q22 :: .ref q23 :: .int 0 :: .int 0 :: .int 0 :: .int 0 :: .ref q24 :: .int 0 :: .int 0 :: .ref q25 :: .ref q26 :: .int 0 :: .ref q27 :: .ref q28 :: .ref q29 :: .ref q30 :: .ref q31 :: .ref q32 :: .ref q33 :: .null :: .null :: .int 0 :: []))) :: (q1, .inl (tc.1, 24, .inl (fun _ => 0))) :: (q2, .inl (tc.1, 24, .inl (fun _ => 0))) :: (q3, .inl (tc.1, 120, .inl (fun _ => 0))) :: (q4, .inl (tc.1, 10, .inl (fun _ => 0))) :: (q5, .inl (tc.1, 240, .inl (fun _ => 0))) :: (q6, .inl (tc.1, 240, .inl (fun _ => 0))) :: (q7, .inl (tc.1, 1200, .inl (fun _ => 0))) :: (q8, .inl (tc.1, 3, .inl (fun _ => 0))) :: (q9, .inl (tc.1, 3, .inl (fun _ => 0))) :: (q10, .inl (tc.1, 5, .inl (fun _ => 0))) :: (q11, .inl (tc.1, 8, .inl (fun _ => 0))) :: (q12, .inl (tc.1, 8, .inl (fun _ => 0))) :: (q13, .inl (tc.1, 8, .inl (fun _ => 0))) :: (q14, .inl (tc.1, 8, .inl (fun _ => 0))) :: (q15, .inl (tc.1, 1280, .inl (fun _ => 0))) :: (q16, .inl (tc.1, 32, .inl (fun _ => 0))) :: (q17, .inl (tc.1, 40, .inl (fun _ => 0))) :: (q18, .inl (tc.1, 120, .inl (fun _ => 0))) :: (q19, .inl (tc.1, 24, .inl (fun _ => 0))) :: (q20, .inl (tc.1, 8, .inl (fun _ => 0))) :: (q21, .inl (tc.1, 40, .inl (fun _ => 0))) :: (q22, .inl (tc.1, 66, .inl (fun _ => 0))) :: (q23, .inl (tc.1, 66, .inl (fun _ => 0))) :: (q24, .inl (tc.1, 300, .inl (fun _ => 0))) :: (q25, .inl (tc.1, 300, .inl (fun _ => 0))) :: (q26, .inl (tc.1, 300, .inl (fun _ => 0))) :: (q27, .inl (tc.1, 300, .inl (fun _ => 0))) :: (q28, .inl (tc.1, 300, .inl (fun _ => 0))) :: (q29, .inl (tc.1, 300, .inl (fun _ => 0))) :: (q30, .inl (tc.1, 8, .inl (upd (upd (upd (upd (upd (upd (upd (upd (fun _ => 0) 0 1) 1 1) 2 1) 3 1) 4 1) 5 1) 6 1) 7 1))) :: (q31, .inl (tc.1, 25920, .inl (fun _ => 0))) :: (q32, .inl (tc.1, 648, .inl (fun _ => 0))) :: (q33, .inl (tc.1, 2160, .inl (fun _ => 0))) :: [])) rfl ?_
  refine j_aload C d12_init_312 0 rfl ?_
  refine j_const C d12_init_313 ?_
  refine j_newi (N := 54) C (fun q34 => ((h_, .inr (12, (.int 0 :: .ref q1 :: .ref q2 :: .ref q3 :: .int 0 :: .ref q4 :: .ref q5 :: .ref q6 :: .ref q7 :: .int 0 :: .ref q8 :: .ref q9 :: .ref q10 :: .int 0 :: .int 0 :: .ref q11 :: .ref q12 :: .int 0 :: .int 0 :: .ref q13 :: .ref q14 :: .ref q15 :: .ref q16 :: .ref q17 :: .int 0 :: .int 0 :: .int 0 :: .int 0 :: .int 0 :: .ref q18 :: .ref q19 :: .ref q20 :: .ref q21 :: .int 0 :: .ref q22 :: .ref q23 :: .int 0 :: .int 0 :: .int 0 :: .int 0 :: .ref q24 :: .int 0 :: .int 0 :: .ref q25 :: .ref q26 :: .int 0 :: .ref q27 :: .ref q28 :: .ref q29 :: .ref q30 :: .ref q31 :: .ref q32 :: .ref q33 :: .null :: .null :: .int 0 :: []))) :: (q1, .inl (tc.1, 24, .inl (fun _ => 0))) :: (q2, .inl (tc.1, 24, .inl (fun _ => 0))) :: (q3, .inl (tc.1, 120, .inl (fun _ => 0))) :: (q4, .inl (tc.1, 10, .inl (fun _ => 0))) :: (q5, .inl (tc.1, 240, .inl (fun _ => 0))) :: (q6, .inl (tc.1, 240, .inl (fun _ => 0))) :: (q7, .inl (tc.1, 1200, .inl (fun _ => 0))) :: (q8, .inl (tc.1, 3, .inl (fun _ => 0))) :: (q9, .inl (tc.1, 3, .inl (fun _ => 0))) :: (q10, .inl (tc.1, 5, .inl (fun _ => 0))) :: (q11, .inl (tc.1, 8, .inl (fun _ => 0))) :: (q12, .inl (tc.1, 8, .inl (fun _ => 0))) :: (q13, .inl (tc.1, 8, .inl (fun _ => 0))) :: (q14, .inl (tc.1, 8, .inl (fun _ => 0))) :: (q15, .inl (tc.1, 1280, .inl (fun _ => 0))) :: (q16, .inl (tc.1, 32, .inl (fun _ => 0))) :: (q17, .inl (tc.1, 40, .inl (fun _ => 0))) :: (q18, .inl (tc.1, 120, .inl (fun _ => 0))) :: (q19, .inl (tc.1, 24, .inl (fun _ => 0))) :: (q20, .inl (tc.1, 8, .inl (fun _ => 0))) :: (q21, .inl (tc.1, 40, .inl (fun _ => 0))) :: (q22, .inl (tc.1, 66, .inl (fun _ => 0))) :: (q23, .inl (tc.1, 66, .inl (fun _ => 0))) :: (q24, .inl (tc.1, 300, .inl (fun _ => 0))) :: (q25, .inl (tc.1, 300, .inl (fun _ => 0))) :: (q26, .inl (tc.1, 300, .inl (fun _ => 0))) :: (q27, .inl (tc.1, 300, .inl (fun _ => 0))) :: (q28, .inl (tc.1, 300, .inl (fun _ => 0))) :: (q29, .inl (tc.1, 300, .inl (fun _ => 0))) :: (q30, .inl (tc.1, 8, .inl (upd (upd (upd (upd (upd (upd (upd (upd (fun _ => 0) 0 1) 1 1) 2 1) 3 1) 4 1) 5 1) 6 1) 7 1))) :: (q31, .inl (tc.1, 25920, .inl (fun _ => 0))) :: (q32, .inl (tc.1, 648, .inl (fun _ => 0))) :: (q33, .inl (tc.1, 2160, .inl (fun _ => 0))) :: (q34, .inl (tc.1, 54, .inl (fun _ => 0))) :: [])) d12_init_315 lw_aI rfl (Nat.le_of_ble_eq_true rfl) ⟨(Nat.le_of_ble_eq_true rfl), (Nat.le_of_ble_eq_true rfl)⟩ (fun _ => rfl) (fun q34 => ?_)
  refine j_putF C hin d12_init_317 fp12_109 0 rfl rfl rfl (Nat.le_of_ble_eq_true rfl) (ws' := ((h_, .inr (12, (.int 0 :: .ref q1 :: .ref q2 :: .ref q3 :: .int 0 :: .ref q4 :: .ref q5 :: .ref q6 :: .ref q7 :: .int 0 :: .ref q8 :: .ref q9 :: .ref q10 :: .int 0 :: .int 0 :: .ref q11 :: .ref q12 :: .int 0 :: .int 0 :: .ref q13 :: .ref q14 :: .ref q15 :: .ref q16 :: .ref q17 :: .int 0 :: .int 0 :: .int 0 :: .int 0 :: .int 0 :: .ref q18 :: .ref q19 :: .ref q20 :: .ref q21 :: .int 0 :: .ref q22 :: .ref q23 :: .int 0 :: .int 0 :: .int 0 :: .int 0 :: .ref q24 :: .int 0 :: .int 0 :: .ref q25 :: .ref q26 :: .int 0 :: .ref q27 :: .ref q28 :: .ref q29 :: .ref q30 :: .ref q31 :: .ref q32 :: .ref q33 :: .ref q34 :: .null :: .int 0 :: []))) :: (q1, .inl (tc.1, 24, .inl (fun _ => 0))) :: (q2, .inl (tc.1, 24, .inl (fun _ => 0))) :: (q3, .inl (tc.1, 120, .inl (fun _ => 0))) :: (q4, .inl (tc.1, 10, .inl (fun _ => 0))) :: (q5, .inl (tc.1, 240, .inl (fun _ => 0))) :: (q6, .inl (tc.1, 240, .inl (fun _ => 0))) :: (q7, .inl (tc.1, 1200, .inl (fun _ => 0))) :: (q8, .inl (tc.1, 3, .inl (fun _ => 0))) :: (q9, .inl (tc.1, 3, .inl (fun _ => 0))) :: (q10, .inl (tc.1, 5, .inl (fun _ => 0))) :: (q11, .inl (tc.1, 8, .inl (fun _ => 0))) :: (q12, .inl (tc.1, 8, .inl (fun _ => 0))) :: (q13, .inl (tc.1, 8, .inl (fun _ => 0))) :: (q14, .inl (tc.1, 8, .inl (fun _ => 0))) :: (q15, .inl (tc.1, 1280, .inl (fun _ => 0))) :: (q16, .inl (tc.1, 32, .inl (fun _ => 0))) :: (q17, .inl (tc.1, 40, .inl (fun _ => 0))) :: (q18, .inl (tc.1, 120, .inl (fun _ => 0))) :: (q19, .inl (tc.1, 24, .inl (fun _ => 0))) :: (q20, .inl (tc.1, 8, .inl (fun _ => 0))) :: (q21, .inl (tc.1, 40, .inl (fun _ => 0))) :: (q22, .inl (tc.1, 66, .inl (fun _ => 0))) :: (q23, .inl (tc.1, 66, .inl (fun _ => 0))) :: (q24, .inl (tc.1, 300, .inl (fun _ => 0))) :: (q25, .inl (tc.1, 300, .inl (fun _ => 0))) :: (q26, .inl (tc.1, 300, .inl (fun _ => 0))) :: (q27, .inl (tc.1, 300, .inl (fun _ => 0))) :: (q28, .inl (tc.1, 300, .inl (fun _ => 0))) :: (q29, .inl (tc.1, 300, .inl (fun _ => 0))) :: (q30, .inl (tc.1, 8, .inl (upd (upd (upd (upd (upd (upd (upd (upd (fun _ => 0) 0 1) 1 1) 2 1) 3 1) 4 1) 5 1) 6 1) 7 1))) :: (q31, .inl (tc.1, 25920, .inl (fun _ => 0))) :: (q32, .inl (tc.1, 648, .inl (fun _ => 0))) :: (q33, .inl (tc.1, 2160, .inl (fun _ => 0))) :: (q34, .inl (tc.1, 54, .inl (fun _ => 0))) :: [])) rfl ?_
  refine j_aload C d12_init_320 0 rfl ?_
  refine j_const C d12_init_321 ?_
  refine j_newi (N := 40) C (fun q35 => ((h_, .inr (12, (.int 0 :: .ref q1 :: .ref q2 :: .ref q3 :: .int 0 :: .ref q4 :: .ref q5 :: .ref q6 :: .ref q7 :: .int 0 :: .ref q8 :: .ref q9 :: .ref q10 :: .int 0 :: .int 0 :: .ref q11 :: .ref q12 :: .int 0 :: .int 0 :: .ref q13 :: .ref q14 :: .ref q15 :: .ref q16 :: .ref q17 :: .int 0 :: .int 0 :: .int 0 :: .int 0 :: .int 0 :: .ref q18 :: .ref q19 :: .ref q20 :: .ref q21 :: .int 0 :: .ref q22 :: .ref q23 :: .int 0 :: .int 0 :: .int 0 :: .int 0 :: .ref q24 :: .int 0 :: .int 0 :: .ref q25 :: .ref q26 :: .int 0 :: .ref q27 :: .ref q28 :: .ref q29 :: .ref q30 :: .ref q31 :: .ref q32 :: .ref q33 :: .ref q34 :: .null :: .int 0 :: []))) :: (q1, .inl (tc.1, 24, .inl (fun _ => 0))) :: (q2, .inl (tc.1, 24, .inl (fun _ => 0))) :: (q3, .inl (tc.1, 120, .inl (fun _ => 0))) :: (q4, .inl (tc.1, 10, .inl (fun _ => 0))) :: (q5, .inl (tc.1, 240, .inl (fun _ => 0))) :: (q6, .inl (tc.1, 240, .inl (fun _ => 0))) :: (q7, .inl (tc.1, 1200, .inl (fun _ => 0))) :: (q8, .inl (tc.1, 3, .inl (fun _ => 0))) :: (q9, .inl (tc.1, 3, .inl (fun _ => 0))) :: (q10, .inl (tc.1, 5, .inl (fun _ => 0))) :: (q11, .inl (tc.1, 8, .inl (fun _ => 0))) :: (q12, .inl (tc.1, 8, .inl (fun _ => 0))) :: (q13, .inl (tc.1, 8, .inl (fun _ => 0))) :: (q14, .inl (tc.1, 8, .inl (fun _ => 0))) :: (q15, .inl (tc.1, 1280, .inl (fun _ => 0))) :: (q16, .inl (tc.1, 32, .inl (fun _ => 0))) :: (q17, .inl (tc.1, 40, .inl (fun _ => 0))) :: (q18, .inl (tc.1, 120, .inl (fun _ => 0))) :: (q19, .inl (tc.1, 24, .inl (fun _ => 0))) :: (q20, .inl (tc.1, 8, .inl (fun _ => 0))) :: (q21, .inl (tc.1, 40, .inl (fun _ => 0))) :: (q22, .inl (tc.1, 66, .inl (fun _ => 0))) :: (q23, .inl (tc.1, 66, .inl (fun _ => 0))) :: (q24, .inl (tc.1, 300, .inl (fun _ => 0))) :: (q25, .inl (tc.1, 300, .inl (fun _ => 0))) :: (q26, .inl (tc.1, 300, .inl (fun _ => 0))) :: (q27, .inl (tc.1, 300, .inl (fun _ => 0))) :: (q28, .inl (tc.1, 300, .inl (fun _ => 0))) :: (q29, .inl (tc.1, 300, .inl (fun _ => 0))) :: (q30, .inl (tc.1, 8, .inl (upd (upd (upd (upd (upd (upd (upd (upd (fun _ => 0) 0 1) 1 1) 2 1) 3 1) 4 1) 5 1) 6 1) 7 1))) :: (q31, .inl (tc.1, 25920, .inl (fun _ => 0))) :: (q32, .inl (tc.1, 648, .inl (fun _ => 0))) :: (q33, .inl (tc.1, 2160, .inl (fun _ => 0))) :: (q34, .inl (tc.1, 54, .inl (fun _ => 0))) :: (q35, .inl (tc.1, 40, .inl (fun _ => 0))) :: [])) d12_init_323 lw_aI rfl (Nat.le_of_ble_eq_true rfl) ⟨(Nat.le_of_ble_eq_true rfl), (Nat.le_of_ble_eq_true rfl)⟩ (fun _ => rfl) (fun q35 => ?_)
  refine j_putF C hin d12_init_325 fp12_112 0 rfl rfl rfl (Nat.le_of_ble_eq_true rfl) (ws' := ((h_, .inr (12, (.int 0 :: .ref q1 :: .ref q2 :: .ref q3 :: .int 0 :: .ref q4 :: .ref q5 :: .ref q6 :: .ref q7 :: .int 0 :: .ref q8 :: .ref q9 :: .ref q10 :: .int 0 :: .int 0 :: .ref q11 :: .ref q12 :: .int 0 :: .int 0 :: .ref q13 :: .ref q14 :: .ref q15 :: .ref q16 :: .ref q17 :: .int 0 :: .int 0 :: .int 0 :: .int 0 :: .int 0 :: .ref q18 :: .ref q19 :: .ref q20 :: .ref q21 :: .int 0 :: .ref q22 :: .ref q23 :: .int 0 :: .int 0 :: .int 0 :: .int 0 :: .ref q24 :: .int 0 :: .int 0 :: .ref q25 :: .ref q26 :: .int 0 :: .ref q27 :: .ref q28 :: .ref q29 :: .ref q30 :: .ref q31 :: .ref q32 :: .ref q33 :: .ref q34 :: .ref q35 :: .int 0 :: []))) :: (q1, .inl (tc.1, 24, .inl (fun _ => 0))) :: (q2, .inl (tc.1, 24, .inl (fun _ => 0))) :: (q3, .inl (tc.1, 120, .inl (fun _ => 0))) :: (q4, .inl (tc.1, 10, .inl (fun _ => 0))) :: (q5, .inl (tc.1, 240, .inl (fun _ => 0))) :: (q6, .inl (tc.1, 240, .inl (fun _ => 0))) :: (q7, .inl (tc.1, 1200, .inl (fun _ => 0))) :: (q8, .inl (tc.1, 3, .inl (fun _ => 0))) :: (q9, .inl (tc.1, 3, .inl (fun _ => 0))) :: (q10, .inl (tc.1, 5, .inl (fun _ => 0))) :: (q11, .inl (tc.1, 8, .inl (fun _ => 0))) :: (q12, .inl (tc.1, 8, .inl (fun _ => 0))) :: (q13, .inl (tc.1, 8, .inl (fun _ => 0))) :: (q14, .inl (tc.1, 8, .inl (fun _ => 0))) :: (q15, .inl (tc.1, 1280, .inl (fun _ => 0))) :: (q16, .inl (tc.1, 32, .inl (fun _ => 0))) :: (q17, .inl (tc.1, 40, .inl (fun _ => 0))) :: (q18, .inl (tc.1, 120, .inl (fun _ => 0))) :: (q19, .inl (tc.1, 24, .inl (fun _ => 0))) :: (q20, .inl (tc.1, 8, .inl (fun _ => 0))) :: (q21, .inl (tc.1, 40, .inl (fun _ => 0))) :: (q22, .inl (tc.1, 66, .inl (fun _ => 0))) :: (q23, .inl (tc.1, 66, .inl (fun _ => 0))) :: (q24, .inl (tc.1, 300, .inl (fun _ => 0))) :: (q25, .inl (tc.1, 300, .inl (fun _ => 0))) :: (q26, .inl (tc.1, 300, .inl (fun _ => 0))) :: (q27, .inl (tc.1, 300, .inl (fun _ => 0))) :: (q28, .inl (tc.1, 300, .inl (fun _ => 0))) :: (q29, .inl (tc.1, 300, .inl (fun _ => 0))) :: (q30, .inl (tc.1, 8, .inl (upd (upd (upd (upd (upd (upd (upd (upd (fun _ => 0) 0 1) 1 1) 2 1) 3 1) 4 1) 5 1) 6 1) 7 1))) :: (q31, .inl (tc.1, 25920, .inl (fun _ => 0))) :: (q32, .inl (tc.1, 648, .inl (fun _ => 0))) :: (q33, .inl (tc.1, 2160, .inl (fun _ => 0))) :: (q34, .inl (tc.1, 54, .inl (fun _ => 0))) :: (q35, .inl (tc.1, 40, .inl (fun _ => 0))) :: [])) rfl ?_
  refine j_aload C d12_init_328 0 rfl ?_
  refine j_const C d12_init_329 ?_
  refine j_putq C d12_init_330 fq12_115 0 rfl rfl rfl (Nat.le_of_ble_eq_true rfl) (ws' := ((h_, .inr (12, (.int 0 :: .ref q1 :: .ref q2 :: .ref q3 :: .int 0 :: .ref q4 :: .ref q5 :: .ref q6 :: .ref q7 :: .int 0 :: .ref q8 :: .ref q9 :: .ref q10 :: .int 0 :: .int 0 :: .ref q11 :: .ref q12 :: .int 0 :: .int 0 :: .ref q13 :: .ref q14 :: .ref q15 :: .ref q16 :: .ref q17 :: .int 0 :: .int 0 :: .int 0 :: .int 0 :: .int 0 :: .ref q18 :: .ref q19 :: .ref q20 :: .ref q21 :: .int 0 :: .ref q22 :: .ref q23 :: .int 0 :: .int 0 :: .int 0 :: .int 0 :: .ref q24 :: .int 0 :: .int 0 :: .ref q25 :: .ref q26 :: .int 0 :: .ref q27 :: .ref q28 :: .ref q29 :: .ref q30 :: .ref q31 :: .ref q32 :: .ref q33 :: .ref q34 :: .ref q35 :: .int (-1) :: []))) :: (q1, .inl (tc.1, 24, .inl (fun _ => 0))) :: (q2, .inl (tc.1, 24, .inl (fun _ => 0))) :: (q3, .inl (tc.1, 120, .inl (fun _ => 0))) :: (q4, .inl (tc.1, 10, .inl (fun _ => 0))) :: (q5, .inl (tc.1, 240, .inl (fun _ => 0))) :: (q6, .inl (tc.1, 240, .inl (fun _ => 0))) :: (q7, .inl (tc.1, 1200, .inl (fun _ => 0))) :: (q8, .inl (tc.1, 3, .inl (fun _ => 0))) :: (q9, .inl (tc.1, 3, .inl (fun _ => 0))) :: (q10, .inl (tc.1, 5, .inl (fun _ => 0))) :: (q11, .inl (tc.1, 8, .inl (fun _ => 0))) :: (q12, .inl (tc.1, 8, .inl (fun _ => 0))) :: (q13, .inl (tc.1, 8, .inl (fun _ => 0))) :: (q14, .inl (tc.1, 8, .inl (fun _ => 0))) :: (q15, .inl (tc.1, 1280, .inl (fun _ => 0))) :: (q16, .inl (tc.1, 32, .inl (fun _ => 0))) :: (q17, .inl (tc.1, 40, .inl (fun _ => 0))) :: (q18, .inl (tc.1, 120, .inl (fun _ => 0))) :: (q19, .inl (tc.1, 24, .inl (fun _ => 0))) :: (q20, .inl (tc.1, 8, .inl (fun _ => 0))) :: (q21, .inl (tc.1, 40, .inl (fun _ => 0))) :: (q22, .inl (tc.1, 66, .inl (fun _ => 0))) :: (q23, .inl (tc.1, 66, .inl (fun _ => 0))) :: (q24, .inl (tc.1, 300, .inl (fun _ => 0))) :: (q25, .inl (tc.1, 300, .inl (fun _ => 0))) :: (q26, .inl (tc.1, 300, .inl (fun _ => 0))) :: (q27, .inl (tc.1, 300, .inl (fun _ => 0))) :: (q28, .inl (tc.1, 300, .inl (fun _ => 0))) :: (q29, .inl (tc.1, 300, .inl (fun _ => 0))) :: (q30, .inl (tc.1, 8, .inl (upd (upd (upd (upd (upd (upd (upd (upd (fun _ => 0) 0 1) 1 1) 2 1) 3 1) 4 1) 5 1) 6 1) 7 1))) :: (q31, .inl (tc.1, 25920, .inl (fun _ => 0))) :: (q32, .inl (tc.1, 648, .inl (fun _ => 0))) :: (q33, .inl (tc.1, 2160, .inl (fun _ => 0))) :: (q34, .inl (tc.1, 54, .inl (fun _ => 0))) :: (q35, .inl (tc.1, 40, .inl (fun _ => 0))) :: [])) rfl ?_
  exact j_cret C d12_init_333 ⟨_, _, _, _, _, _, _, _, _, _, _, _, _, _, _, _, _, _, _, _, _, _, _, _, _, _, _, _, _, _, _, _, _, _, _, rfl⟩

