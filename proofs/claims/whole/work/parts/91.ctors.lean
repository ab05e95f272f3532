theorem lw_aI : Cond.arrayClass .int ∈ jtb := j_in1 (i := 48) rfl rfl
theorem lw_aL : Cond.arrayClass .long ∈ jtb := j_in2 (i := 22) rfl rfl
theorem lw_obI : Cond.instanceMethod objectInit ∈ jtb := j_in1 (i := 22) rfl rfl
theorem lw_obC : Cond.code objectInit ⟨#[0xb1]⟩ 1 none ∈ jtb := j_in1 (i := 23) rfl rfl
set_option maxRecDepth 20000 in
theorem fp6_9 : jfp RX6 9 6 0 (.array .int) true := ⟨RX6, TX6, 2, tyX6, rfl, by decide, inX6, j_in1 (i := 30) rfl rfl, tyX6_ok, nmX6, rfl, by decide +kernel, rfl⟩
set_option maxRecDepth 20000 in
theorem ko6_3 : Cond.methodLink RX6 3 objectInit ∈ jtb := j_in1 (i := 29) rfl rfl
set_option maxRecDepth 20000 in
theorem fp1_13 : jfp RX1 13 1 1 (.array .int) true := ⟨RX1, TX1, 3, tyX1, rfl, by decide, inX1, j_in1 (i := 128) rfl rfl, tyX1_ok, nmX1, rfl, by decide +kernel, rfl⟩
set_option maxRecDepth 20000 in
theorem fp1_9 : jfp RX1 9 1 0 (.array .int) true := ⟨RX1, TX1, 3, tyX1, rfl, by decide, inX1, j_in1 (i := 126) rfl rfl, tyX1_ok, nmX1, rfl, by decide +kernel, rfl⟩
set_option maxRecDepth 20000 in
theorem ko1_1 : Cond.methodLink RX1 1 objectInit ∈ jtb := j_in1 (i := 125) rfl rfl
set_option maxRecDepth 20000 in
theorem fp3_9 : jfp RX3 9 3 0 (.array .int) true := ⟨RX3, TX3, 2, tyX3, rfl, by decide, inX3, j_in1 (i := 145) rfl rfl, tyX3_ok, nmX3, rfl, by decide +kernel, rfl⟩
set_option maxRecDepth 20000 in
theorem ko3_3 : Cond.methodLink RX3 3 objectInit ∈ jtb := j_in1 (i := 144) rfl rfl
set_option maxRecDepth 20000 in
theorem fp9_15 : jfp RX9 15 9 1 (.array .int) true := ⟨RX9, TX9, 4, tyX9, rfl, by decide, inX9, j_in1 (i := 170) rfl rfl, tyX9_ok, nmX9, rfl, by decide +kernel, rfl⟩
set_option maxRecDepth 20000 in
theorem fp9_18 : jfp RX9 18 9 2 (.array .int) true := ⟨RX9, TX9, 4, tyX9, rfl, by decide, inX9, j_in1 (i := 172) rfl rfl, tyX9_ok, nmX9, rfl, by decide +kernel, rfl⟩
set_option maxRecDepth 20000 in
theorem fp9_9 : jfp RX9 9 9 0 (.array .int) true := ⟨RX9, TX9, 4, tyX9, rfl, by decide, inX9, j_in1 (i := 168) rfl rfl, tyX9_ok, nmX9, rfl, by decide +kernel, rfl⟩
set_option maxRecDepth 20000 in
theorem ko9_3 : Cond.methodLink RX9 3 objectInit ∈ jtb := j_in1 (i := 167) rfl rfl
set_option maxRecDepth 20000 in
theorem fp7_15 : jfp RX7 15 7 2 (.array .int) true := ⟨RX7, TX7, 4, tyX7, rfl, by decide, inX7, j_in1 (i := 79) rfl rfl, tyX7_ok, nmX7, rfl, by decide +kernel, rfl⟩
set_option maxRecDepth 20000 in
theorem fp7_18 : jfp RX7 18 7 3 (.array .int) true := ⟨RX7, TX7, 4, tyX7, rfl, by decide, inX7, j_in1 (i := 83) rfl rfl, tyX7_ok, nmX7, rfl, by decide +kernel, rfl⟩
set_option maxRecDepth 20000 in
theorem fp7_9 : jfp RX7 9 7 1 (.array .int) true := ⟨RX7, TX7, 4, tyX7, rfl, by decide, inX7, j_in1 (i := 77) rfl rfl, tyX7_ok, nmX7, rfl, by decide +kernel, rfl⟩
set_option maxRecDepth 20000 in
theorem ko7_3 : Cond.methodLink RX7 3 objectInit ∈ jtb := j_in1 (i := 74) rfl rfl
set_option maxRecDepth 20000 in
theorem fp8_15 : jfp RX8 15 8 3 (.array .int) true := ⟨RX8, TX8, 6, tyX8, rfl, by decide, inX8, j_in1 (i := 103) rfl rfl, tyX8_ok, nmX8, rfl, by decide +kernel, rfl⟩
set_option maxRecDepth 20000 in
theorem fp8_18 : jfp RX8 18 8 4 (.array .int) true := ⟨RX8, TX8, 6, tyX8, rfl, by decide, inX8, j_in1 (i := 104) rfl rfl, tyX8_ok, nmX8, rfl, by decide +kernel, rfl⟩
set_option maxRecDepth 20000 in
theorem fp8_21 : jfp RX8 21 8 0 (.object "PredictiveGrammar$Rules") true := ⟨RX8, TX8, 6, tyX8, rfl, by decide, inX8, j_in1 (i := 99) rfl rfl, tyX8_ok, nmX8, rfl, by decide +kernel, rfl⟩
set_option maxRecDepth 20000 in
theorem fp8_25 : jfp RX8 25 8 1 (.object "PredictiveGrammar$Sets") true := ⟨RX8, TX8, 6, tyX8, rfl, by decide, inX8, j_in1 (i := 100) rfl rfl, tyX8_ok, nmX8, rfl, by decide +kernel, rfl⟩
set_option maxRecDepth 20000 in
theorem fp8_9 : jfp RX8 9 8 2 (.array .int) true := ⟨RX8, TX8, 6, tyX8, rfl, by decide, inX8, j_in1 (i := 101) rfl rfl, tyX8_ok, nmX8, rfl, by decide +kernel, rfl⟩
set_option maxRecDepth 20000 in
theorem ko8_3 : Cond.methodLink RX8 3 objectInit ∈ jtb := j_in1 (i := 98) rfl rfl
set_option maxRecDepth 20000 in
theorem kl2_9 : Cond.classLink RX2 9 "PredictiveGrammar$Rules" ∈ jtb := j_in1 (i := 55) rfl rfl
set_option maxRecDepth 20000 in
theorem fp2_11 : jfp RX2 11 2 0 (.array (.object "PredictiveGrammar$Rules")) true := ⟨RX2, TX2, 3, tyX2, rfl, by decide, inX2, j_in1 (i := 58) rfl rfl, tyX2_ok, nmX2, rfl, by decide +kernel, rfl⟩
set_option maxRecDepth 20000 in
theorem mj2_17 : jmj RX2 17 yX6_init cX6_init 1 0 RX11 := ⟨List.mem_of_getElem? (i := 1) rfl, j_in1 (i := 28) rfl rfl, j_in1 (i := 2) rfl rfl, by decide +kernel, rfl, j_in1 (i := 27) rfl rfl⟩
set_option maxRecDepth 20000 in
theorem nw2_9 : jnw RX2 9 6 2 [.null, .int 0] := ⟨RX6, TX6, tyX6, rfl, j_in1 (i := 55) rfl rfl, j_in1 (i := 25) rfl rfl, j_in1 (i := 2) rfl rfl, inX6, tyX6_ok, fun j hj => match j, hj with | 0, _ => rfl | 1, _ => rfl | j + 2, hj => absurd hj (by omega)⟩
set_option maxRecDepth 20000 in
theorem ko2_3 : Cond.methodLink RX2 3 objectInit ∈ jtb := j_in1 (i := 54) rfl rfl
set_option maxRecDepth 20000 in
theorem fp4_15 : jfp RX4 15 4 5 (.array .int) true := ⟨RX4, TX4, 15, tyX4, rfl, by decide, inX4, j_in1 (i := 192) rfl rfl, tyX4_ok, nmX4, rfl, by decide +kernel, rfl⟩
set_option maxRecDepth 20000 in
theorem fp4_21 : jfp RX4 21 4 7 (.object "PredictiveGrammar$Tree") true := ⟨RX4, TX4, 15, tyX4, rfl, by decide, inX4, j_in1 (i := 196) rfl rfl, tyX4_ok, nmX4, rfl, by decide +kernel, rfl⟩
set_option maxRecDepth 20000 in
theorem fp4_25 : jfp RX4 25 4 8 (.array .int) true := ⟨RX4, TX4, 15, tyX4, rfl, by decide, inX4, j_in1 (i := 198) rfl rfl, tyX4_ok, nmX4, rfl, by decide +kernel, rfl⟩
set_option maxRecDepth 20000 in
theorem fp4_28 : jfp RX4 28 4 10 (.array .int) true := ⟨RX4, TX4, 15, tyX4, rfl, by decide, inX4, j_in1 (i := 200) rfl rfl, tyX4_ok, nmX4, rfl, by decide +kernel, rfl⟩
set_option maxRecDepth 20000 in
theorem fp4_31 : jfp RX4 31 4 11 (.array .int) true := ⟨RX4, TX4, 15, tyX4, rfl, by decide, inX4, j_in1 (i := 201) rfl rfl, tyX4_ok, nmX4, rfl, by decide +kernel, rfl⟩
set_option maxRecDepth 20000 in
theorem fp4_34 : jfp RX4 34 4 0 (.object "PredictiveGrammar$Rules") true := ⟨RX4, TX4, 15, tyX4, rfl, by decide, inX4, j_in1 (i := 186) rfl rfl, tyX4_ok, nmX4, rfl, by decide +kernel, rfl⟩
set_option maxRecDepth 20000 in
theorem fp4_38 : jfp RX4 38 4 1 (.object "PredictiveGrammar$Sets") true := ⟨RX4, TX4, 15, tyX4, rfl, by decide, inX4, j_in1 (i := 187) rfl rfl, tyX4_ok, nmX4, rfl, by decide +kernel, rfl⟩
set_option maxRecDepth 20000 in
theorem fp4_42 : jfp RX4 42 4 2 (.object "PredictiveGrammar$Table") true := ⟨RX4, TX4, 15, tyX4, rfl, by decide, inX4, j_in1 (i := 188) rfl rfl, tyX4_ok, nmX4, rfl, by decide +kernel, rfl⟩
set_option maxRecDepth 20000 in
theorem fp4_46 : jfp RX4 46 4 3 (.object "PredictiveGrammar$Input") true := ⟨RX4, TX4, 15, tyX4, rfl, by decide, inX4, j_in1 (i := 189) rfl rfl, tyX4_ok, nmX4, rfl, by decide +kernel, rfl⟩
set_option maxRecDepth 20000 in
theorem fp4_9 : jfp RX4 9 4 4 (.array .int) true := ⟨RX4, TX4, 15, tyX4, rfl, by decide, inX4, j_in1 (i := 190) rfl rfl, tyX4_ok, nmX4, rfl, by decide +kernel, rfl⟩
set_option maxRecDepth 20000 in
theorem mj4_20 : jmj RX4 20 yX9_init cX9_init 1 0 RX11 := ⟨List.mem_of_getElem? (i := 5) rfl, j_in1 (i := 166) rfl rfl, j_in1 (i := 9) rfl rfl, by decide +kernel, rfl, j_in1 (i := 165) rfl rfl⟩
set_option maxRecDepth 20000 in
theorem nw4_18 : jnw RX4 18 9 4 [.null, .null, .null, .int 0] := ⟨RX9, TX9, tyX9, rfl, j_in1 (i := 162) rfl rfl, j_in1 (i := 163) rfl rfl, j_in1 (i := 9) rfl rfl, inX9, tyX9_ok, fun j hj => match j, hj with | 0, _ => rfl | 1, _ => rfl | 2, _ => rfl | 3, _ => rfl | j + 4, hj => absurd hj (by omega)⟩
set_option maxRecDepth 20000 in
theorem ko4_3 : Cond.methodLink RX4 3 objectInit ∈ jtb := j_in1 (i := 161) rfl rfl
theorem d6_init_0 : jda cX6_init 0 0 1 := Or.inl ⟨0, by decide +kernel⟩
theorem d6_init_1 : jd cX6_init 1 (.invokespecial 3) 3 4 := by decide +kernel
theorem d6_init_4 : jda cX6_init 4 0 5 := Or.inl ⟨0, by decide +kernel⟩
theorem d6_init_5 : jdk cX6_init 5 24 7 := Or.inr (Or.inl ⟨24, by decide +kernel⟩)
theorem d6_init_7 : jd cX6_init 7 (.newarray .int) 2 9 := by decide +kernel
theorem d6_init_9 : jd cX6_init 9 (.putfield 9) 3 12 := by decide +kernel
theorem d6_init_12 : decode cX6_init 12 = .ok (.return_, 1) := by decide +kernel
def fX6_init : Option (Unit) :=
some ()
set_option maxHeartbeats 4000000 in
set_option maxRecDepth 100000 in
theorem kX6_init (l : Launch) (D : va_G) (tc : jTC) (h_  : Nat) : ctC l D tc yX6_init (Cond.code yX6_init cX6_init 1 none :: jtb) ({ frames := 1, cells := 1, slots := 24, locals := 20 } : Room) [.ref h_] [(h_, .inr (6, [.null, .int 0]))] 1 24 (fX6_init) (fun (o : Unit) w => ∃ q1, w = [(h_, .inr (6, [.ref q1, .int 0])), (q1, .inl (tc.1, 24, .inl (fun _ => 0)))]) := by
  refine ctC_of (lv0 := [(0, .ref h_)]) (by decide +kernel) rfl (Nat.le_of_ble_eq_true rfl) rfl (fun X C hin => ?_)
  unfold fX6_init
  refine j_aload C d6_init_0 0 rfl ?_
  refine j_objInit C d6_init_1 ko6_3 lw_obI lw_obC ⟨(Nat.le_of_ble_eq_true rfl), (Nat.le_of_ble_eq_true rfl)⟩ (Nat.le_of_ble_eq_true rfl) ?_
  refine j_aload C d6_init_4 0 rfl ?_
  refine j_const C d6_init_5 ?_
  refine j_newi (N := 24) C (fun q1 => [(h_, .inr (6, [.null, .int 0])), (q1, .inl (tc.1, 24, .inl (fun _ => 0)))]) d6_init_7 lw_aI rfl (Nat.le_of_ble_eq_true rfl) ⟨(Nat.le_of_ble_eq_true rfl), (Nat.le_of_ble_eq_true rfl)⟩ (fun _ => rfl) (fun q1 => ?_)
  refine j_putF C hin d6_init_9 fp6_9 0 rfl rfl rfl (Nat.le_of_ble_eq_true rfl) (ws' := [(h_, .inr (6, [.ref q1, .int 0])), (q1, .inl (tc.1, 24, .inl (fun _ => 0)))]) rfl ?_
  exact j_cret C d6_init_12 ⟨_, rfl⟩

theorem d1_init_0 : jda cX1_init 0 0 1 := Or.inl ⟨0, by decide +kernel⟩
theorem d1_init_1 : jd cX1_init 1 (.invokespecial 1) 3 4 := by decide +kernel
theorem d1_init_4 : jda cX1_init 4 0 5 := Or.inl ⟨0, by decide +kernel⟩
theorem d1_init_5 : jdk cX1_init 5 3 6 := Or.inl ⟨3, by decide +kernel⟩
theorem d1_init_6 : jd cX1_init 6 (.newarray .int) 2 8 := by decide +kernel
theorem d1_init_8 : jd cX1_init 8 (.putfield 9) 3 11 := by decide +kernel
theorem d1_init_11 : jda cX1_init 11 0 12 := Or.inl ⟨0, by decide +kernel⟩
theorem d1_init_12 : jdk cX1_init 12 3 13 := Or.inl ⟨3, by decide +kernel⟩
theorem d1_init_13 : jd cX1_init 13 (.newarray .int) 2 15 := by decide +kernel
theorem d1_init_15 : jd cX1_init 15 (.putfield 13) 3 18 := by decide +kernel
theorem d1_init_18 : decode cX1_init 18 = .ok (.return_, 1) := by decide +kernel
def fX1_init : Option (Unit) :=
some ()
set_option maxHeartbeats 4000000 in
set_option maxRecDepth 100000 in
theorem kX1_init (l : Launch) (D : va_G) (tc : jTC) (h_  : Nat) : ctC l D tc yX1_init (Cond.code yX1_init cX1_init 1 none :: jtb) ({ frames := 1, cells := 2, slots := 6, locals := 20 } : Room) [.ref h_] [(h_, .inr (1, [.null, .null, .int 0]))] 2 6 (fX1_init) (fun (o : Unit) w => ∃ q1 q2, w = [(h_, .inr (1, [.ref q1, .ref q2, .int 0])), (q1, .inl (tc.1, 3, .inl (fun _ => 0))), (q2, .inl (tc.1, 3, .inl (fun _ => 0)))]) := by
  refine ctC_of (lv0 := [(0, .ref h_)]) (by decide +kernel) rfl (Nat.le_of_ble_eq_true rfl) rfl (fun X C hin => ?_)
  unfold fX1_init
  refine j_aload C d1_init_0 0 rfl ?_
  refine j_objInit C d1_init_1 ko1_1 lw_obI lw_obC ⟨(Nat.le_of_ble_eq_true rfl), (Nat.le_of_ble_eq_true rfl)⟩ (Nat.le_of_ble_eq_true rfl) ?_
  refine j_aload C d1_init_4 0 rfl ?_
  refine j_const C d1_init_5 ?_
  refine j_newi (N := 3) C (fun q1 => [(h_, .inr (1, [.null, .null, .int 0])), (q1, .inl (tc.1, 3, .inl (fun _ => 0)))]) d1_init_6 lw_aI rfl (Nat.le_of_ble_eq_true rfl) ⟨(Nat.le_of_ble_eq_true rfl), (Nat.le_of_ble_eq_true rfl)⟩ (fun _ => rfl) (fun q1 => ?_)
  refine j_putF C hin d1_init_8 fp1_9 0 rfl rfl rfl (Nat.le_of_ble_eq_true rfl) (ws' := [(h_, .inr (1, [.ref q1, .null, .int 0])), (q1, .inl (tc.1, 3, .inl (fun _ => 0)))]) rfl ?_
  refine j_aload C d1_init_11 0 rfl ?_
  refine j_const C d1_init_12 ?_
  refine j_newi (N := 3) C (fun q2 => [(h_, .inr (1, [.ref q1, .null, .int 0])), (q1, .inl (tc.1, 3, .inl (fun _ => 0))), (q2, .inl (tc.1, 3, .inl (fun _ => 0)))]) d1_init_13 lw_aI rfl (Nat.le_of_ble_eq_true rfl) ⟨(Nat.le_of_ble_eq_true rfl), (Nat.le_of_ble_eq_true rfl)⟩ (fun _ => rfl) (fun q2 => ?_)
  refine j_putF C hin d1_init_15 fp1_13 0 rfl rfl rfl (Nat.le_of_ble_eq_true rfl) (ws' := [(h_, .inr (1, [.ref q1, .ref q2, .int 0])), (q1, .inl (tc.1, 3, .inl (fun _ => 0))), (q2, .inl (tc.1, 3, .inl (fun _ => 0)))]) rfl ?_
  exact j_cret C d1_init_18 ⟨_, _, rfl⟩

theorem d3_init_0 : jda cX3_init 0 0 1 := Or.inl ⟨0, by decide +kernel⟩
theorem d3_init_1 : jd cX3_init 1 (.invokespecial 3) 3 4 := by decide +kernel
theorem d3_init_4 : jda cX3_init 4 0 5 := Or.inl ⟨0, by decide +kernel⟩
theorem d3_init_5 : jdk cX3_init 5 40 7 := Or.inr (Or.inl ⟨40, by decide +kernel⟩)
theorem d3_init_7 : jd cX3_init 7 (.newarray .int) 2 9 := by decide +kernel
theorem d3_init_9 : jd cX3_init 9 (.putfield 9) 3 12 := by decide +kernel
theorem d3_init_12 : decode cX3_init 12 = .ok (.return_, 1) := by decide +kernel
def fX3_init : Option (Unit) :=
some ()
set_option maxHeartbeats 4000000 in
set_option maxRecDepth 100000 in
theorem kX3_init (l : Launch) (D : va_G) (tc : jTC) (h_  : Nat) : ctC l D tc yX3_init (Cond.code yX3_init cX3_init 1 none :: jtb) ({ frames := 1, cells := 1, slots := 40, locals := 20 } : Room) [.ref h_] [(h_, .inr (3, [.null, .int 0]))] 1 40 (fX3_init) (fun (o : Unit) w => ∃ q1, w = [(h_, .inr (3, [.ref q1, .int 0])), (q1, .inl (tc.1, 40, .inl (fun _ => 0)))]) := by
  refine ctC_of (lv0 := [(0, .ref h_)]) (by decide +kernel) rfl (Nat.le_of_ble_eq_true rfl) rfl (fun X C hin => ?_)
  unfold fX3_init
  refine j_aload C d3_init_0 0 rfl ?_
  refine j_objInit C d3_init_1 ko3_3 lw_obI lw_obC ⟨(Nat.le_of_ble_eq_true rfl), (Nat.le_of_ble_eq_true rfl)⟩ (Nat.le_of_ble_eq_true rfl) ?_
  refine j_aload C d3_init_4 0 rfl ?_
  refine j_const C d3_init_5 ?_
  refine j_newi (N := 40) C (fun q1 => [(h_, .inr (3, [.null, .int 0])), (q1, .inl (tc.1, 40, .inl (fun _ => 0)))]) d3_init_7 lw_aI rfl (Nat.le_of_ble_eq_true rfl) ⟨(Nat.le_of_ble_eq_true rfl), (Nat.le_of_ble_eq_true rfl)⟩ (fun _ => rfl) (fun q1 => ?_)
  refine j_putF C hin d3_init_9 fp3_9 0 rfl rfl rfl (Nat.le_of_ble_eq_true rfl) (ws' := [(h_, .inr (3, [.ref q1, .int 0])), (q1, .inl (tc.1, 40, .inl (fun _ => 0)))]) rfl ?_
  exact j_cret C d3_init_12 ⟨_, rfl⟩

theorem d9_init_0 : jda cX9_init 0 0 1 := Or.inl ⟨0, by decide +kernel⟩
theorem d9_init_1 : jd cX9_init 1 (.invokespecial 3) 3 4 := by decide +kernel
theorem d9_init_4 : jda cX9_init 4 0 5 := Or.inl ⟨0, by decide +kernel⟩
theorem d9_init_5 : jdk cX9_init 5 300 8 := Or.inr (Or.inr ⟨300, by decide +kernel⟩)
theorem d9_init_8 : jd cX9_init 8 (.newarray .int) 2 10 := by decide +kernel
theorem d9_init_10 : jd cX9_init 10 (.putfield 9) 3 13 := by decide +kernel
theorem d9_init_13 : jda cX9_init 13 0 14 := Or.inl ⟨0, by decide +kernel⟩
theorem d9_init_14 : jdk cX9_init 14 300 17 := Or.inr (Or.inr ⟨300, by decide +kernel⟩)
theorem d9_init_17 : jd cX9_init 17 (.newarray .int) 2 19 := by decide +kernel
theorem d9_init_19 : jd cX9_init 19 (.putfield 15) 3 22 := by decide +kernel
theorem d9_init_22 : jda cX9_init 22 0 23 := Or.inl ⟨0, by decide +kernel⟩
theorem d9_init_23 : jdk cX9_init 23 300 26 := Or.inr (Or.inr ⟨300, by decide +kernel⟩)
theorem d9_init_26 : jd cX9_init 26 (.newarray .int) 2 28 := by decide +kernel
theorem d9_init_28 : jd cX9_init 28 (.putfield 18) 3 31 := by decide +kernel
theorem d9_init_31 : decode cX9_init 31 = .ok (.return_, 1) := by decide +kernel
def fX9_init : Option (Unit) :=
some ()
set_option maxHeartbeats 4000000 in
set_option maxRecDepth 100000 in
theorem kX9_init (l : Launch) (D : va_G) (tc : jTC) (h_  : Nat) : ctC l D tc yX9_init (Cond.code yX9_init cX9_init 1 none :: jtb) ({ frames := 1, cells := 3, slots := 900, locals := 20 } : Room) [.ref h_] [(h_, .inr (9, [.null, .null, .null, .int 0]))] 3 900 (fX9_init) (fun (o : Unit) w => ∃ q1 q2 q3, w = [(h_, .inr (9, [.ref q1, .ref q2, .ref q3, .int 0])), (q1, .inl (tc.1, 300, .inl (fun _ => 0))), (q2, .inl (tc.1, 300, .inl (fun _ => 0))), (q3, .inl (tc.1, 300, .inl (fun _ => 0)))]) := by
  refine ctC_of (lv0 := [(0, .ref h_)]) (by decide +kernel) rfl (Nat.le_of_ble_eq_true rfl) rfl (fun X C hin => ?_)
  unfold fX9_init
  refine j_aload C d9_init_0 0 rfl ?_
  refine j_objInit C d9_init_1 ko9_3 lw_obI lw_obC ⟨(Nat.le_of_ble_eq_true rfl), (Nat.le_of_ble_eq_true rfl)⟩ (Nat.le_of_ble_eq_true rfl) ?_
  refine j_aload C d9_init_4 0 rfl ?_
  refine j_const C d9_init_5 ?_
  refine j_newi (N := 300) C (fun q1 => [(h_, .inr (9, [.null, .null, .null, .int 0])), (q1, .inl (tc.1, 300, .inl (fun _ => 0)))]) d9_init_8 lw_aI rfl (Nat.le_of_ble_eq_true rfl) ⟨(Nat.le_of_ble_eq_true rfl), (Nat.le_of_ble_eq_true rfl)⟩ (fun _ => rfl) (fun q1 => ?_)
  refine j_putF C hin d9_init_10 fp9_9 0 rfl rfl rfl (Nat.le_of_ble_eq_true rfl) (ws' := [(h_, .inr (9, [.ref q1, .null, .null, .int 0])), (q1, .inl (tc.1, 300, .inl (fun _ => 0)))]) rfl ?_
  refine j_aload C d9_init_13 0 rfl ?_
  refine j_const C d9_init_14 ?_
  refine j_newi (N := 300) C (fun q2 => [(h_, .inr (9, [.ref q1, .null, .null, .int 0])), (q1, .inl (tc.1, 300, .inl (fun _ => 0))), (q2, .inl (tc.1, 300, .inl (fun _ => 0)))]) d9_init_17 lw_aI rfl (Nat.le_of_ble_eq_true rfl) ⟨(Nat.le_of_ble_eq_true rfl), (Nat.le_of_ble_eq_true rfl)⟩ (fun _ => rfl) (fun q2 => ?_)
  refine j_putF C hin d9_init_19 fp9_15 0 rfl rfl rfl (Nat.le_of_ble_eq_true rfl) (ws' := [(h_, .inr (9, [.ref q1, .ref q2, .null, .int 0])), (q1, .inl (tc.1, 300, .inl (fun _ => 0))), (q2, .inl (tc.1, 300, .inl (fun _ => 0)))]) rfl ?_
  refine j_aload C d9_init_22 0 rfl ?_
  refine j_const C d9_init_23 ?_
  refine j_newi (N := 300) C (fun q3 => [(h_, .inr (9, [.ref q1, .ref q2, .null, .int 0])), (q1, .inl (tc.1, 300, .inl (fun _ => 0))), (q2, .inl (tc.1, 300, .inl (fun _ => 0))), (q3, .inl (tc.1, 300, .inl (fun _ => 0)))]) d9_init_26 lw_aI rfl (Nat.le_of_ble_eq_true rfl) ⟨(Nat.le_of_ble_eq_true rfl), (Nat.le_of_ble_eq_true rfl)⟩ (fun _ => rfl) (fun q3 => ?_)
  refine j_putF C hin d9_init_28 fp9_18 0 rfl rfl rfl (Nat.le_of_ble_eq_true rfl) (ws' := [(h_, .inr (9, [.ref q1, .ref q2, .ref q3, .int 0])), (q1, .inl (tc.1, 300, .inl (fun _ => 0))), (q2, .inl (tc.1, 300, .inl (fun _ => 0))), (q3, .inl (tc.1, 300, .inl (fun _ => 0)))]) rfl ?_
  exact j_cret C d9_init_31 ⟨_, _, _, rfl⟩

theorem d7_init_0 : jda cX7_init 0 0 1 := Or.inl ⟨0, by decide +kernel⟩
theorem d7_init_1 : jd cX7_init 1 (.invokespecial 3) 3 4 := by decide +kernel
theorem d7_init_4 : jda cX7_init 4 0 5 := Or.inl ⟨0, by decide +kernel⟩
theorem d7_init_5 : jdk cX7_init 5 8 7 := Or.inr (Or.inl ⟨8, by decide +kernel⟩)
theorem d7_init_7 : jd cX7_init 7 (.newarray .int) 2 9 := by decide +kernel
theorem d7_init_9 : jd cX7_init 9 (.putfield 9) 3 12 := by decide +kernel
theorem d7_init_12 : jda cX7_init 12 0 13 := Or.inl ⟨0, by decide +kernel⟩
theorem d7_init_13 : jdk cX7_init 13 8 15 := Or.inr (Or.inl ⟨8, by decide +kernel⟩)
theorem d7_init_15 : jd cX7_init 15 (.newarray .int) 2 17 := by decide +kernel
theorem d7_init_17 : jd cX7_init 17 (.putfield 15) 3 20 := by decide +kernel
theorem d7_init_20 : jda cX7_init 20 0 21 := Or.inl ⟨0, by decide +kernel⟩
theorem d7_init_21 : jdk cX7_init 21 8 23 := Or.inr (Or.inl ⟨8, by decide +kernel⟩)
theorem d7_init_23 : jd cX7_init 23 (.newarray .int) 2 25 := by decide +kernel
theorem d7_init_25 : jd cX7_init 25 (.putfield 18) 3 28 := by decide +kernel
theorem d7_init_28 : decode cX7_init 28 = .ok (.return_, 1) := by decide +kernel
def fX7_init : Option (Unit) :=
some ()
set_option maxHeartbeats 4000000 in
set_option maxRecDepth 100000 in
theorem kX7_init (l : Launch) (D : va_G) (tc : jTC) (h_  : Nat) : ctC l D tc yX7_init (Cond.code yX7_init cX7_init 1 none :: jtb) ({ frames := 1, cells := 3, slots := 24, locals := 20 } : Room) [.ref h_] [(h_, .inr (7, [.int 0, .null, .null, .null]))] 3 24 (fX7_init) (fun (o : Unit) w => ∃ q1 q2 q3, w = [(h_, .inr (7, [.int 0, .ref q1, .ref q2, .ref q3])), (q1, .inl (tc.1, 8, .inl (fun _ => 0))), (q2, .inl (tc.1, 8, .inl (fun _ => 0))), (q3, .inl (tc.1, 8, .inl (fun _ => 0)))]) := by
  refine ctC_of (lv0 := [(0, .ref h_)]) (by decide +kernel) rfl (Nat.le_of_ble_eq_true rfl) rfl (fun X C hin => ?_)
  unfold fX7_init
  refine j_aload C d7_init_0 0 rfl ?_
  refine j_objInit C d7_init_1 ko7_3 lw_obI lw_obC ⟨(Nat.le_of_ble_eq_true rfl), (Nat.le_of_ble_eq_true rfl)⟩ (Nat.le_of_ble_eq_true rfl) ?_
  refine j_aload C d7_init_4 0 rfl ?_
  refine j_const C d7_init_5 ?_
  refine j_newi (N := 8) C (fun q1 => [(h_, .inr (7, [.int 0, .null, .null, .null])), (q1, .inl (tc.1, 8, .inl (fun _ => 0)))]) d7_init_7 lw_aI rfl (Nat.le_of_ble_eq_true rfl) ⟨(Nat.le_of_ble_eq_true rfl), (Nat.le_of_ble_eq_true rfl)⟩ (fun _ => rfl) (fun q1 => ?_)
  refine j_putF C hin d7_init_9 fp7_9 0 rfl rfl rfl (Nat.le_of_ble_eq_true rfl) (ws' := [(h_, .inr (7, [.int 0, .ref q1, .null, .null])), (q1, .inl (tc.1, 8, .inl (fun _ => 0)))]) rfl ?_
  refine j_aload C d7_init_12 0 rfl ?_
  refine j_const C d7_init_13 ?_
  refine j_newi (N := 8) C (fun q2 => [(h_, .inr (7, [.int 0, .ref q1, .null, .null])), (q1, .inl (tc.1, 8, .inl (fun _ => 0))), (q2, .inl (tc.1, 8, .inl (fun _ => 0)))]) d7_init_15 lw_aI rfl (Nat.le_of_ble_eq_true rfl) ⟨(Nat.le_of_ble_eq_true rfl), (Nat.le_of_ble_eq_true rfl)⟩ (fun _ => rfl) (fun q2 => ?_)
  refine j_putF C hin d7_init_17 fp7_15 0 rfl rfl rfl (Nat.le_of_ble_eq_true rfl) (ws' := [(h_, .inr (7, [.int 0, .ref q1, .ref q2, .null])), (q1, .inl (tc.1, 8, .inl (fun _ => 0))), (q2, .inl (tc.1, 8, .inl (fun _ => 0)))]) rfl ?_
  refine j_aload C d7_init_20 0 rfl ?_
  refine j_const C d7_init_21 ?_
  refine j_newi (N := 8) C (fun q3 => [(h_, .inr (7, [.int 0, .ref q1, .ref q2, .null])), (q1, .inl (tc.1, 8, .inl (fun _ => 0))), (q2, .inl (tc.1, 8, .inl (fun _ => 0))), (q3, .inl (tc.1, 8, .inl (fun _ => 0)))]) d7_init_23 lw_aI rfl (Nat.le_of_ble_eq_true rfl) ⟨(Nat.le_of_ble_eq_true rfl), (Nat.le_of_ble_eq_true rfl)⟩ (fun _ => rfl) (fun q3 => ?_)
  refine j_putF C hin d7_init_25 fp7_18 0 rfl rfl rfl (Nat.le_of_ble_eq_true rfl) (ws' := [(h_, .inr (7, [.int 0, .ref q1, .ref q2, .ref q3])), (q1, .inl (tc.1, 8, .inl (fun _ => 0))), (q2, .inl (tc.1, 8, .inl (fun _ => 0))), (q3, .inl (tc.1, 8, .inl (fun _ => 0)))]) rfl ?_
  exact j_cret C d7_init_28 ⟨_, _, _, rfl⟩

theorem d8_init_0 : jda cX8_init 0 0 1 := Or.inl ⟨0, by decide +kernel⟩
theorem d8_init_1 : jd cX8_init 1 (.invokespecial 3) 3 4 := by decide +kernel
theorem d8_init_4 : jda cX8_init 4 0 5 := Or.inl ⟨0, by decide +kernel⟩
theorem d8_init_5 : jdk cX8_init 5 24 7 := Or.inr (Or.inl ⟨24, by decide +kernel⟩)
theorem d8_init_7 : jd cX8_init 7 (.newarray .int) 2 9 := by decide +kernel
theorem d8_init_9 : jd cX8_init 9 (.putfield 9) 3 12 := by decide +kernel
theorem d8_init_12 : jda cX8_init 12 0 13 := Or.inl ⟨0, by decide +kernel⟩
theorem d8_init_13 : jdk cX8_init 13 72 15 := Or.inr (Or.inl ⟨72, by decide +kernel⟩)
theorem d8_init_15 : jd cX8_init 15 (.newarray .int) 2 17 := by decide +kernel
theorem d8_init_17 : jd cX8_init 17 (.putfield 15) 3 20 := by decide +kernel
theorem d8_init_20 : jda cX8_init 20 0 21 := Or.inl ⟨0, by decide +kernel⟩
theorem d8_init_21 : jdk cX8_init 21 72 23 := Or.inr (Or.inl ⟨72, by decide +kernel⟩)
theorem d8_init_23 : jd cX8_init 23 (.newarray .int) 2 25 := by decide +kernel
theorem d8_init_25 : jd cX8_init 25 (.putfield 18) 3 28 := by decide +kernel
theorem d8_init_28 : jda cX8_init 28 0 29 := Or.inl ⟨0, by decide +kernel⟩
theorem d8_init_29 : jda cX8_init 29 1 30 := Or.inl ⟨1, by decide +kernel⟩
theorem d8_init_30 : jd cX8_init 30 (.putfield 21) 3 33 := by decide +kernel
theorem d8_init_33 : jda cX8_init 33 0 34 := Or.inl ⟨0, by decide +kernel⟩
theorem d8_init_34 : jda cX8_init 34 2 35 := Or.inl ⟨2, by decide +kernel⟩
theorem d8_init_35 : jd cX8_init 35 (.putfield 25) 3 38 := by decide +kernel
theorem d8_init_38 : decode cX8_init 38 = .ok (.return_, 1) := by decide +kernel
def fX8_init : Option (Unit) :=
some ()
set_option maxHeartbeats 4000000 in
set_option maxRecDepth 100000 in
theorem kX8_init (l : Launch) (D : va_G) (tc : jTC) (h_ a_p1 a_p2 : Nat) : ctC l D tc yX8_init (Cond.code yX8_init cX8_init 3 none :: jtb) ({ frames := 1, cells := 3, slots := 168, locals := 20 } : Room) [.ref h_, .ref a_p1, .ref a_p2] [(h_, .inr (8, [.null, .null, .null, .null, .null, .int 0]))] 3 168 (fX8_init) (fun (o : Unit) w => ∃ q1 q2 q3, w = [(h_, .inr (8, [.ref a_p1, .ref a_p2, .ref q1, .ref q2, .ref q3, .int 0])), (q1, .inl (tc.1, 24, .inl (fun _ => 0))), (q2, .inl (tc.1, 72, .inl (fun _ => 0))), (q3, .inl (tc.1, 72, .inl (fun _ => 0)))]) := by
  refine ctC_of (lv0 := [(0, .ref h_), (1, .ref a_p1), (2, .ref a_p2)]) (by decide +kernel) rfl (Nat.le_of_ble_eq_true rfl) rfl (fun X C hin => ?_)
  unfold fX8_init
  refine j_aload C d8_init_0 0 rfl ?_
  refine j_objInit C d8_init_1 ko8_3 lw_obI lw_obC ⟨(Nat.le_of_ble_eq_true rfl), (Nat.le_of_ble_eq_true rfl)⟩ (Nat.le_of_ble_eq_true rfl) ?_
  refine j_aload C d8_init_4 0 rfl ?_
  refine j_const C d8_init_5 ?_
  refine j_newi (N := 24) C (fun q1 => [(h_, .inr (8, [.null, .null, .null, .null, .null, .int 0])), (q1, .inl (tc.1, 24, .inl (fun _ => 0)))]) d8_init_7 lw_aI rfl (Nat.le_of_ble_eq_true rfl) ⟨(Nat.le_of_ble_eq_true rfl), (Nat.le_of_ble_eq_true rfl)⟩ (fun _ => rfl) (fun q1 => ?_)
  refine j_putF C hin d8_init_9 fp8_9 0 rfl rfl rfl (Nat.le_of_ble_eq_true rfl) (ws' := [(h_, .inr (8, [.null, .null, .ref q1, .null, .null, .int 0])), (q1, .inl (tc.1, 24, .inl (fun _ => 0)))]) rfl ?_
  refine j_aload C d8_init_12 0 rfl ?_
  refine j_const C d8_init_13 ?_
  refine j_newi (N := 72) C (fun q2 => [(h_, .inr (8, [.null, .null, .ref q1, .null, .null, .int 0])), (q1, .inl (tc.1, 24, .inl (fun _ => 0))), (q2, .inl (tc.1, 72, .inl (fun _ => 0)))]) d8_init_15 lw_aI rfl (Nat.le_of_ble_eq_true rfl) ⟨(Nat.le_of_ble_eq_true rfl), (Nat.le_of_ble_eq_true rfl)⟩ (fun _ => rfl) (fun q2 => ?_)
  refine j_putF C hin d8_init_17 fp8_15 0 rfl rfl rfl (Nat.le_of_ble_eq_true rfl) (ws' := [(h_, .inr (8, [.null, .null, .ref q1, .ref q2, .null, .int 0])), (q1, .inl (tc.1, 24, .inl (fun _ => 0))), (q2, .inl (tc.1, 72, .inl (fun _ => 0)))]) rfl ?_
  refine j_aload C d8_init_20 0 rfl ?_
  refine j_const C d8_init_21 ?_
  refine j_newi (N := 72) C (fun q3 => [(h_, .inr (8, [.null, .null, .ref q1, .ref q2, .null, .int 0])), (q1, .inl (tc.1, 24, .inl (fun _ => 0))), (q2, .inl (tc.1, 72, .inl (fun _ => 0))), (q3, .inl (tc.1, 72, .inl (fun _ => 0)))]) d8_init_23 lw_aI rfl (Nat.le_of_ble_eq_true rfl) ⟨(Nat.le_of_ble_eq_true rfl), (Nat.le_of_ble_eq_true rfl)⟩ (fun _ => rfl) (fun q3 => ?_)
  refine j_putF C hin d8_init_25 fp8_18 0 rfl rfl rfl (Nat.le_of_ble_eq_true rfl) (ws' := [(h_, .inr (8, [.null, .null, .ref q1, .ref q2, .ref q3, .int 0])), (q1, .inl (tc.1, 24, .inl (fun _ => 0))), (q2, .inl (tc.1, 72, .inl (fun _ => 0))), (q3, .inl (tc.1, 72, .inl (fun _ => 0)))]) rfl ?_
  refine j_aload C d8_init_28 0 rfl ?_
  refine j_aload C d8_init_29 1 rfl ?_
  refine j_putF C hin d8_init_30 fp8_21 0 rfl rfl rfl (Nat.le_of_ble_eq_true rfl) (ws' := [(h_, .inr (8, [.ref a_p1, .null, .ref q1, .ref q2, .ref q3, .int 0])), (q1, .inl (tc.1, 24, .inl (fun _ => 0))), (q2, .inl (tc.1, 72, .inl (fun _ => 0))), (q3, .inl (tc.1, 72, .inl (fun _ => 0)))]) rfl ?_
  refine j_aload C d8_init_33 0 rfl ?_
  refine j_aload C d8_init_34 2 rfl ?_
  refine j_putF C hin d8_init_35 fp8_25 0 rfl rfl rfl (Nat.le_of_ble_eq_true rfl) (ws' := [(h_, .inr (8, [.ref a_p1, .ref a_p2, .ref q1, .ref q2, .ref q3, .int 0])), (q1, .inl (tc.1, 24, .inl (fun _ => 0))), (q2, .inl (tc.1, 72, .inl (fun _ => 0))), (q3, .inl (tc.1, 72, .inl (fun _ => 0)))]) rfl ?_
  exact j_cret C d8_init_38 ⟨_, _, _, rfl⟩

theorem d2_init_0 : jda cX2_init 0 0 1 := Or.inl ⟨0, by decide +kernel⟩
theorem d2_init_1 : jd cX2_init 1 (.invokespecial 3) 3 4 := by decide +kernel
theorem d2_init_4 : jda cX2_init 4 0 5 := Or.inl ⟨0, by decide +kernel⟩
theorem d2_init_5 : jdk cX2_init 5 10 7 := Or.inr (Or.inl ⟨10, by decide +kernel⟩)
theorem d2_init_7 : jd cX2_init 7 (.anewarray 9) 3 10 := by decide +kernel
theorem d2_init_10 : jd cX2_init 10 (.putfield 11) 3 13 := by decide +kernel
theorem d2_init_13 : jdk cX2_init 13 0 14 := Or.inl ⟨0, by decide +kernel⟩
theorem d2_init_14 : jds cX2_init 14 1 15 := Or.inl ⟨1, by decide +kernel⟩
theorem d2_init_15 : jdi cX2_init 15 1 16 := Or.inl ⟨1, by decide +kernel⟩
theorem d2_init_16 : jdk cX2_init 16 10 18 := Or.inr (Or.inl ⟨10, by decide +kernel⟩)
theorem d2_init_18 : jdb cX2_init 18 (.if_icmp .ge 22) 22 40 21 := by decide +kernel
theorem d2_init_21 : jda cX2_init 21 0 22 := Or.inl ⟨0, by decide +kernel⟩
theorem d2_init_22 : jd cX2_init 22 (.getfield 11) 3 25 := by decide +kernel
theorem d2_init_25 : jdi cX2_init 25 1 26 := Or.inl ⟨1, by decide +kernel⟩
theorem d2_init_26 : jd cX2_init 26 (.new 9) 3 29 := by decide +kernel
theorem d2_init_29 : jd cX2_init 29 (.dup) 1 30 := by decide +kernel
theorem d2_init_30 : jd cX2_init 30 (.invokespecial 17) 3 33 := by decide +kernel
theorem d2_init_33 : jd cX2_init 33 (.aastore) 1 34 := by decide +kernel
theorem d2_init_34 : jd cX2_init 34 (.iinc 1 1) 3 37 := by decide +kernel
theorem d2_init_37 : jdb cX2_init 37 (.goto (-22)) (-22) 15 40 := by decide +kernel
theorem d2_init_40 : decode cX2_init 40 = .ok (.return_, 1) := by decide +kernel
def fX2_init : Option (Unit) :=
(fX6_init).bind fun _ =>
(fX6_init).bind fun _ =>
(fX6_init).bind fun _ =>
(fX6_init).bind fun _ =>
(fX6_init).bind fun _ =>
(fX6_init).bind fun _ =>
(fX6_init).bind fun _ =>
(fX6_init).bind fun _ =>
(fX6_init).bind fun _ =>
(fX6_init).bind fun _ =>
some ()
set_option maxHeartbeats 4000000 in
set_option maxRecDepth 100000 in
theorem kX2_init (l : Launch) (D : va_G) (tc : jTC) (h_  : Nat) : ctC l D tc yX2_init (Cond.code yX2_init cX2_init 2 none :: jtb) ({ frames := 2, cells := 21, slots := 270, locals := 40 } : Room) [.ref h_] [(h_, .inr (2, [.null, .int 0, .int 0]))] 21 270 (fX2_init) (fun (o : Unit) w => ∃ q1 q2 q3 q4 q5 q6 q7 q8 q9 q10 q11 q12 q13 q14 q15 q16 q17 q18 q19 q20 q21, w = [(h_, .inr (2, [.ref q1, .int 0, .int 0])), (q1, .inl (tc.2.2, 10, .inr (.inr (.inr (.inr (va_up (va_up (va_up (va_up (va_up (va_up (va_up (va_up (va_up (va_up (fun _ => none) 0 (some q2)) 1 (some q4)) 2 (some q6)) 3 (some q8)) 4 (some q10)) 5 (some q12)) 6 (some q14)) 7 (some q16)) 8 (some q18)) 9 (some q20))))))), (q2, .inr (6, [.ref q3, .int 0])), (q3, .inl (tc.1, 24, .inl (fun _ => 0))), (q4, .inr (6, [.ref q5, .int 0])), (q5, .inl (tc.1, 24, .inl (fun _ => 0))), (q6, .inr (6, [.ref q7, .int 0])), (q7, .inl (tc.1, 24, .inl (fun _ => 0))), (q8, .inr (6, [.ref q9, .int 0])), (q9, .inl (tc.1, 24, .inl (fun _ => 0))), (q10, .inr (6, [.ref q11, .int 0])), (q11, .inl (tc.1, 24, .inl (fun _ => 0))), (q12, .inr (6, [.ref q13, .int 0])), (q13, .inl (tc.1, 24, .inl (fun _ => 0))), (q14, .inr (6, [.ref q15, .int 0])), (q15, .inl (tc.1, 24, .inl (fun _ => 0))), (q16, .inr (6, [.ref q17, .int 0])), (q17, .inl (tc.1, 24, .inl (fun _ => 0))), (q18, .inr (6, [.ref q19, .int 0])), (q19, .inl (tc.1, 24, .inl (fun _ => 0))), (q20, .inr (6, [.ref q21, .int 0])), (q21, .inl (tc.1, 24, .inl (fun _ => 0)))]) := by
  refine ctC_of (lv0 := [(0, .ref h_)]) (by decide +kernel) rfl (Nat.le_of_ble_eq_true rfl) rfl (fun X C hin => ?_)
  unfold fX2_init
  refine j_aload C d2_init_0 0 rfl ?_
  refine j_objInit C d2_init_1 ko2_3 lw_obI lw_obC ⟨(Nat.le_of_ble_eq_true rfl), (Nat.le_of_ble_eq_true rfl)⟩ (Nat.le_of_ble_eq_true rfl) ?_
  refine j_aload C d2_init_4 0 rfl ?_
  refine j_const C d2_init_5 ?_
  refine j_newr (N := 10) C (fun q1 => [(h_, .inr (2, [.null, .int 0, .int 0])), (q1, .inl (tc.2.2, 10, .inr (.inr (.inr (.inr (fun _ => none))))))]) d2_init_7 kl2_9 rfl (Nat.le_of_ble_eq_true rfl) ⟨(Nat.le_of_ble_eq_true rfl), (Nat.le_of_ble_eq_true rfl)⟩ (fun _ => rfl) (fun q1 => ?_)
  refine j_putF C hin d2_init_10 fp2_11 0 rfl rfl rfl (Nat.le_of_ble_eq_true rfl) (ws' := [(h_, .inr (2, [.ref q1, .int 0, .int 0])), (q1, .inl (tc.2.2, 10, .inr (.inr (.inr (.inr (fun _ => none))))))]) rfl ?_
  refine j_const C d2_init_13 ?_
  refine j_istore C d2_init_14 (by decide) (lv' := [(1, .int 0), (0, .ref h_)]) rfl ?_
  refine j_iload C d2_init_15 0 rfl ?_
  refine j_const C d2_init_16 ?_
  refine j_icmp_geF C d2_init_18 (by decide +kernel) ?_
  refine j_aload C d2_init_21 1 rfl ?_
  refine j_get C d2_init_22 fl2_11 0 rfl rfl ?_
  refine j_iload C d2_init_25 0 rfl ?_
  refine j_new C (fun q2 => [(h_, .inr (2, [.ref q1, .int 0, .int 0])), (q1, .inl (tc.2.2, 10, .inr (.inr (.inr (.inr (fun _ => none)))))), (q2, .inr (6, [.null, .int 0]))]) d2_init_26 nw2_9 ⟨(Nat.le_of_ble_eq_true rfl), (Nat.le_of_ble_eq_true rfl)⟩ (fun _ => rfl) (fun q2 => ?_)
  refine j_dup C d2_init_29 rfl ?_
  refine j_callCN (As := []) C d2_init_30 mj2_17 (kX6_init _ _ tc q2) ⟨rfl, rfl, (Nat.le_of_ble_eq_true rfl), (Nat.le_of_ble_eq_true rfl)⟩ rfl [2] rfl rfl rfl (Nat.le_of_ble_eq_true rfl) ⟨(Nat.le_of_ble_eq_true rfl), (Nat.le_of_ble_eq_true rfl)⟩ (fun o w hw => ?_)
  obtain ⟨q3, rfl⟩ := hw
  refine ⟨[(q2, .inr (6, [.ref q3, .int 0]))], [(q3, .inl (tc.1, 24, .inl (fun _ => 0)))], rfl, rfl, rfl, rfl, ?_⟩
  show jo X 2 (3, 36) _ _ [(h_, .inr (2, [.ref q1, .int 0, .int 0])), (q1, .inl (tc.2.2, 10, .inr (.inr (.inr (.inr (fun _ => none)))))), (q2, .inr (6, [.ref q3, .int 0])), (q3, .inl (tc.1, 24, .inl (fun _ => 0)))] 33 [(1, .int 0), (0, .ref h_)] [.ref q2, .int 0, .ref q1]
  refine j_aast (j := 0) C d2_init_33 1 2 rfl rfl rfl (Nat.le_of_ble_eq_true rfl) (Nat.le_of_ble_eq_true rfl) (ws' := [(h_, .inr (2, [.ref q1, .int 0, .int 0])), (q1, .inl (tc.2.2, 10, .inr (.inr (.inr (.inr (va_up (fun _ => none) 0 (some q2))))))), (q2, .inr (6, [.ref q3, .int 0])), (q3, .inl (tc.1, 24, .inl (fun _ => 0)))]) rfl ?_
  refine j_iinc (v := 1) (lv' := [(1, .int 1), (0, .ref h_)]) C d2_init_34 0 rfl (by decide +kernel) (by decide) rfl ?_
  refine j_goto C d2_init_37 ?_
  refine j_iload C d2_init_15 0 rfl ?_
  refine j_const C d2_init_16 ?_
  refine j_icmp_geF C d2_init_18 (by decide +kernel) ?_
  refine j_aload C d2_init_21 1 rfl ?_
  refine j_get C d2_init_22 fl2_11 0 rfl rfl ?_
  refine j_iload C d2_init_25 0 rfl ?_
  refine j_new C (fun q4 => [(h_, .inr (2, [.ref q1, .int 0, .int 0])), (q1, .inl (tc.2.2, 10, .inr (.inr (.inr (.inr (va_up (fun _ => none) 0 (some q2))))))), (q2, .inr (6, [.ref q3, .int 0])), (q3, .inl (tc.1, 24, .inl (fun _ => 0))), (q4, .inr (6, [.null, .int 0]))]) d2_init_26 nw2_9 ⟨(Nat.le_of_ble_eq_true rfl), (Nat.le_of_ble_eq_true rfl)⟩ (fun _ => rfl) (fun q4 => ?_)
  refine j_dup C d2_init_29 rfl ?_
  refine j_callCN (As := []) C d2_init_30 mj2_17 (kX6_init _ _ tc q4) ⟨rfl, rfl, (Nat.le_of_ble_eq_true rfl), (Nat.le_of_ble_eq_true rfl)⟩ rfl [4] rfl rfl rfl (Nat.le_of_ble_eq_true rfl) ⟨(Nat.le_of_ble_eq_true rfl), (Nat.le_of_ble_eq_true rfl)⟩ (fun o w hw => ?_)
  obtain ⟨q5, rfl⟩ := hw
  refine ⟨[(q4, .inr (6, [.ref q5, .int 0]))], [(q5, .inl (tc.1, 24, .inl (fun _ => 0)))], rfl, rfl, rfl, rfl, ?_⟩
  show jo X 2 (5, 62) _ _ [(h_, .inr (2, [.ref q1, .int 0, .int 0])), (q1, .inl (tc.2.2, 10, .inr (.inr (.inr (.inr (va_up (fun _ => none) 0 (some q2))))))), (q2, .inr (6, [.ref q3, .int 0])), (q3, .inl (tc.1, 24, .inl (fun _ => 0))), (q4, .inr (6, [.ref q5, .int 0])), (q5, .inl (tc.1, 24, .inl (fun _ => 0)))] 33 [(1, .int 1), (0, .ref h_)] [.ref q4, .int 1, .ref q1]
  refine j_aast (j := 1) C d2_init_33 1 4 rfl rfl rfl (Nat.le_of_ble_eq_true rfl) (Nat.le_of_ble_eq_true rfl) (ws' := [(h_, .inr (2, [.ref q1, .int 0, .int 0])), (q1, .inl (tc.2.2, 10, .inr (.inr (.inr (.inr (va_up (va_up (fun _ => none) 0 (some q2)) 1 (some q4))))))), (q2, .inr (6, [.ref q3, .int 0])), (q3, .inl (tc.1, 24, .inl (fun _ => 0))), (q4, .inr (6, [.ref q5, .int 0])), (q5, .inl (tc.1, 24, .inl (fun _ => 0)))]) rfl ?_
  refine j_iinc (v := 2) (lv' := [(1, .int 2), (0, .ref h_)]) C d2_init_34 0 rfl (by decide +kernel) (by decide) rfl ?_
  refine j_goto C d2_init_37 ?_
  refine j_iload C d2_init_15 0 rfl ?_
  refine j_const C d2_init_16 ?_
  refine j_icmp_geF C d2_init_18 (by decide +kernel) ?_
  refine j_aload C d2_init_21 1 rfl ?_
  refine j_get C d2_init_22 fl2_11 0 rfl rfl ?_
  refine j_iload C d2_init_25 0 rfl ?_
  refine j_new C (fun q6 => [(h_, .inr (2, [.ref q1, .int 0, .int 0])), (q1, .inl (tc.2.2, 10, .inr (.inr (.inr (.inr (va_up (va_up (fun _ => none) 0 (some q2)) 1 (some q4))))))), (q2, .inr (6, [.ref q3, .int 0])), (q3, .inl (tc.1, 24, .inl (fun _ => 0))), (q4, .inr (6, [.ref q5, .int 0])), (q5, .inl (tc.1, 24, .inl (fun _ => 0))), (q6, .inr (6, [.null, .int 0]))]) d2_init_26 nw2_9 ⟨(Nat.le_of_ble_eq_true rfl), (Nat.le_of_ble_eq_true rfl)⟩ (fun _ => rfl) (fun q6 => ?_)
  refine j_dup C d2_init_29 rfl ?_
  refine j_callCN (As := []) C d2_init_30 mj2_17 (kX6_init _ _ tc q6) ⟨rfl, rfl, (Nat.le_of_ble_eq_true rfl), (Nat.le_of_ble_eq_true rfl)⟩ rfl [6] rfl rfl rfl (Nat.le_of_ble_eq_true rfl) ⟨(Nat.le_of_ble_eq_true rfl), (Nat.le_of_ble_eq_true rfl)⟩ (fun o w hw => ?_)
  obtain ⟨q7, rfl⟩ := hw
  refine ⟨[(q6, .inr (6, [.ref q7, .int 0]))], [(q7, .inl (tc.1, 24, .inl (fun _ => 0)))], rfl, rfl, rfl, rfl, ?_⟩
  show jo X 2 (7, 88) _ _ [(h_, .inr (2, [.ref q1, .int 0, .int 0])), (q1, .inl (tc.2.2, 10, .inr (.inr (.inr (.inr (va_up (va_up (fun _ => none) 0 (some q2)) 1 (some q4))))))), (q2, .inr (6, [.ref q3, .int 0])), (q3, .inl (tc.1, 24, .inl (fun _ => 0))), (q4, .inr (6, [.ref q5, .int 0])), (q5, .inl (tc.1, 24, .inl (fun _ => 0))), (q6, .inr (6, [.ref q7, .int 0])), (q7, .inl (tc.1, 24, .inl (fun _ => 0)))] 33 [(1, .int 2), (0, .ref h_)] [.ref q6, .int 2, .ref q1]
  refine j_aast (j := 2) C d2_init_33 1 6 rfl rfl rfl (Nat.le_of_ble_eq_true rfl) (Nat.le_of_ble_eq_true rfl) (ws' := [(h_, .inr (2, [.ref q1, .int 0, .int 0])), (q1, .inl (tc.2.2, 10, .inr (.inr (.inr (.inr (va_up (va_up (va_up (fun _ => none) 0 (some q2)) 1 (some q4)) 2 (some q6))))))), (q2, .inr (6, [.ref q3, .int 0])), (q3, .inl (tc.1, 24, .inl (fun _ => 0))), (q4, .inr (6, [.ref q5, .int 0])), (q5, .inl (tc.1, 24, .inl (fun _ => 0))), (q6, .inr (6, [.ref q7, .int 0])), (q7, .inl (tc.1, 24, .inl (fun _ => 0)))]) rfl ?_
  refine j_iinc (v := 3) (lv' := [(1, .int 3), (0, .ref h_)]) C d2_init_34 0 rfl (by decide +kernel) (by decide) rfl ?_
  refine j_goto C d2_init_37 ?_
  refine j_iload C d2_init_15 0 rfl ?_
  refine j_const C d2_init_16 ?_
  refine j_icmp_geF C d2_init_18 (by decide +kernel) ?_
  refine j_aload C d2_init_21 1 rfl ?_
  refine j_get C d2_init_22 fl2_11 0 rfl rfl ?_
  refine j_iload C d2_init_25 0 rfl ?_
  refine j_new C (fun q8 => [(h_, .inr (2, [.ref q1, .int 0, .int 0])), (q1, .inl (tc.2.2, 10, .inr (.inr (.inr (.inr (va_up (va_up (va_up (fun _ => none) 0 (some q2)) 1 (some q4)) 2 (some q6))))))), (q2, .inr (6, [.ref q3, .int 0])), (q3, .inl (tc.1, 24, .inl (fun _ => 0))), (q4, .inr (6, [.ref q5, .int 0])), (q5, .inl (tc.1, 24, .inl (fun _ => 0))), (q6, .inr (6, [.ref q7, .int 0])), (q7, .inl (tc.1, 24, .inl (fun _ => 0))), (q8, .inr (6, [.null, .int 0]))]) d2_init_26 nw2_9 ⟨(Nat.le_of_ble_eq_true rfl), (Nat.le_of_ble_eq_true rfl)⟩ (fun _ => rfl) (fun q8 => ?_)
  refine j_dup C d2_init_29 rfl ?_
  refine j_callCN (As := []) C d2_init_30 mj2_17 (kX6_init _ _ tc q8) ⟨rfl, rfl, (Nat.le_of_ble_eq_true rfl), (Nat.le_of_ble_eq_true rfl)⟩ rfl [8] rfl rfl rfl (Nat.le_of_ble_eq_true rfl) ⟨(Nat.le_of_ble_eq_true rfl), (Nat.le_of_ble_eq_true rfl)⟩ (fun o w hw => ?_)
  obtain ⟨q9, rfl⟩ := hw
  refine ⟨[(q8, .inr (6, [.ref q9, .int 0]))], [(q9, .inl (tc.1, 24, .inl (fun _ => 0)))], rfl, rfl, rfl, rfl, ?_⟩
  show jo X 2 (9, 114) _ _ [(h_, .inr (2, [.ref q1, .int 0, .int 0])), (q1, .inl (tc.2.2, 10, .inr (.inr (.inr (.inr (va_up (va_up (va_up (fun _ => none) 0 (some q2)) 1 (some q4)) 2 (some q6))))))), (q2, .inr (6, [.ref q3, .int 0])), (q3, .inl (tc.1, 24, .inl (fun _ => 0))), (q4, .inr (6, [.ref q5, .int 0])), (q5, .inl (tc.1, 24, .inl (fun _ => 0))), (q6, .inr (6, [.ref q7, .int 0])), (q7, .inl (tc.1, 24, .inl (fun _ => 0))), (q8, .inr (6, [.ref q9, .int 0])), (q9, .inl (tc.1, 24, .inl (fun _ => 0)))] 33 [(1, .int 3), (0, .ref h_)] [.ref q8, .int 3, .ref q1]
  refine j_aast (j := 3) C d2_init_33 1 8 rfl rfl rfl (Nat.le_of_ble_eq_true rfl) (Nat.le_of_ble_eq_true rfl) (ws' := [(h_, .inr (2, [.ref q1, .int 0, .int 0])), (q1, .inl (tc.2.2, 10, .inr (.inr (.inr (.inr (va_up (va_up (va_up (va_up (fun _ => none) 0 (some q2)) 1 (some q4)) 2 (some q6)) 3 (some q8))))))), (q2, .inr (6, [.ref q3, .int 0])), (q3, .inl (tc.1, 24, .inl (fun _ => 0))), (q4, .inr (6, [.ref q5, .int 0])), (q5, .inl (tc.1, 24, .inl (fun _ => 0))), (q6, .inr (6, [.ref q7, .int 0])), (q7, .inl (tc.1, 24, .inl (fun _ => 0))), (q8, .inr (6, [.ref q9, .int 0])), (q9, .inl (tc.1, 24, .inl (fun _ => 0)))]) rfl ?_
  refine j_iinc (v := 4) (lv' := [(1, .int 4), (0, .ref h_)]) C d2_init_34 0 rfl (by decide +kernel) (by decide) rfl ?_
  refine j_goto C d2_init_37 ?_
  refine j_iload C d2_init_15 0 rfl ?_
  refine j_const C d2_init_16 ?_
  refine j_icmp_geF C d2_init_18 (by decide +kernel) ?_
  refine j_aload C d2_init_21 1 rfl ?_
  refine j_get C d2_init_22 fl2_11 0 rfl rfl ?_
  refine j_iload C d2_init_25 0 rfl ?_
  refine j_new C (fun q10 => [(h_, .inr (2, [.ref q1, .int 0, .int 0])), (q1, .inl (tc.2.2, 10, .inr (.inr (.inr (.inr (va_up (va_up (va_up (va_up (fun _ => none) 0 (some q2)) 1 (some q4)) 2 (some q6)) 3 (some q8))))))), (q2, .inr (6, [.ref q3, .int 0])), (q3, .inl (tc.1, 24, .inl (fun _ => 0))), (q4, .inr (6, [.ref q5, .int 0])), (q5, .inl (tc.1, 24, .inl (fun _ => 0))), (q6, .inr (6, [.ref q7, .int 0])), (q7, .inl (tc.1, 24, .inl (fun _ => 0))), (q8, .inr (6, [.ref q9, .int 0])), (q9, .inl (tc.1, 24, .inl (fun _ => 0))), (q10, .inr (6, [.null, .int 0]))]) d2_init_26 nw2_9 ⟨(Nat.le_of_ble_eq_true rfl), (Nat.le_of_ble_eq_true rfl)⟩ (fun _ => rfl) (fun q10 => ?_)
  refine j_dup C d2_init_29 rfl ?_
  refine j_callCN (As := []) C d2_init_30 mj2_17 (kX6_init _ _ tc q10) ⟨rfl, rfl, (Nat.le_of_ble_eq_true rfl), (Nat.le_of_ble_eq_true rfl)⟩ rfl [10] rfl rfl rfl (Nat.le_of_ble_eq_true rfl) ⟨(Nat.le_of_ble_eq_true rfl), (Nat.le_of_ble_eq_true rfl)⟩ (fun o w hw => ?_)
  obtain ⟨q11, rfl⟩ := hw
  refine ⟨[(q10, .inr (6, [.ref q11, .int 0]))], [(q11, .inl (tc.1, 24, .inl (fun _ => 0)))], rfl, rfl, rfl, rfl, ?_⟩
  show jo X 2 (11, 140) _ _ [(h_, .inr (2, [.ref q1, .int 0, .int 0])), (q1, .inl (tc.2.2, 10, .inr (.inr (.inr (.inr (va_up (va_up (va_up (va_up (fun _ => none) 0 (some q2)) 1 (some q4)) 2 (some q6)) 3 (some q8))))))), (q2, .inr (6, [.ref q3, .int 0])), (q3, .inl (tc.1, 24, .inl (fun _ => 0))), (q4, .inr (6, [.ref q5, .int 0])), (q5, .inl (tc.1, 24, .inl (fun _ => 0))), (q6, .inr (6, [.ref q7, .int 0])), (q7, .inl (tc.1, 24, .inl (fun _ => 0))), (q8, .inr (6, [.ref q9, .int 0])), (q9, .inl (tc.1, 24, .inl (fun _ => 0))), (q10, .inr (6, [.ref q11, .int 0])), (q11, .inl (tc.1, 24, .inl (fun _ => 0)))] 33 [(1, .int 4), (0, .ref h_)] [.ref q10, .int 4, .ref q1]
  refine j_aast (j := 4) C d2_init_33 1 10 rfl rfl rfl (Nat.le_of_ble_eq_true rfl) (Nat.le_of_ble_eq_true rfl) (ws' := [(h_, .inr (2, [.ref q1, .int 0, .int 0])), (q1, .inl (tc.2.2, 10, .inr (.inr (.inr (.inr (va_up (va_up (va_up (va_up (va_up (fun _ => none) 0 (some q2)) 1 (some q4)) 2 (some q6)) 3 (some q8)) 4 (some q10))))))), (q2, .inr (6, [.ref q3, .int 0])), (q3, .inl (tc.1, 24, .inl (fun _ => 0))), (q4, .inr (6, [.ref q5, .int 0])), (q5, .inl (tc.1, 24, .inl (fun _ => 0))), (q6, .inr (6, [.ref q7, .int 0])), (q7, .inl (tc.1, 24, .inl (fun _ => 0))), (q8, .inr (6, [.ref q9, .int 0])), (q9, .inl (tc.1, 24, .inl (fun _ => 0))), (q10, .inr (6, [.ref q11, .int 0])), (q11, .inl (tc.1, 24, .inl (fun _ => 0)))]) rfl ?_
  refine j_iinc (v := 5) (lv' := [(1, .int 5), (0, .ref h_)]) C d2_init_34 0 rfl (by decide +kernel) (by decide) rfl ?_
  refine j_goto C d2_init_37 ?_
  refine j_iload C d2_init_15 0 rfl ?_
  refine j_const C d2_init_16 ?_
  refine j_icmp_geF C d2_init_18 (by decide +kernel) ?_
  refine j_aload C d2_init_21 1 rfl ?_
  refine j_get C d2_init_22 fl2_11 0 rfl rfl ?_
  refine j_iload C d2_init_25 0 rfl ?_
  refine j_new C (fun q12 => [(h_, .inr (2, [.ref q1, .int 0, .int 0])), (q1, .inl (tc.2.2, 10, .inr (.inr (.inr (.inr (va_up (va_up (va_up (va_up (va_up (fun _ => none) 0 (some q2)) 1 (some q4)) 2 (some q6)) 3 (some q8)) 4 (some q10))))))), (q2, .inr (6, [.ref q3, .int 0])), (q3, .inl (tc.1, 24, .inl (fun _ => 0))), (q4, .inr (6, [.ref q5, .int 0])), (q5, .inl (tc.1, 24, .inl (fun _ => 0))), (q6, .inr (6, [.ref q7, .int 0])), (q7, .inl (tc.1, 24, .inl (fun _ => 0))), (q8, .inr (6, [.ref q9, .int 0])), (q9, .inl (tc.1, 24, .inl (fun _ => 0))), (q10, .inr (6, [.ref q11, .int 0])), (q11, .inl (tc.1, 24, .inl (fun _ => 0))), (q12, .inr (6, [.null, .int 0]))]) d2_init_26 nw2_9 ⟨(Nat.le_of_ble_eq_true rfl), (Nat.le_of_ble_eq_true rfl)⟩ (fun _ => rfl) (fun q12 => ?_)
  refine j_dup C d2_init_29 rfl ?_
  refine j_callCN (As := []) C d2_init_30 mj2_17 (kX6_init _ _ tc q12) ⟨rfl, rfl, (Nat.le_of_ble_eq_true rfl), (Nat.le_of_ble_eq_true rfl)⟩ rfl [12] rfl rfl rfl (Nat.le_of_ble_eq_true rfl) ⟨(Nat.le_of_ble_eq_true rfl), (Nat.le_of_ble_eq_true rfl)⟩ (fun o w hw => ?_)
  obtain ⟨q13, rfl⟩ := hw
  refine ⟨[(q12, .inr (6, [.ref q13, .int 0]))], [(q13, .inl (tc.1, 24, .inl (fun _ => 0)))], rfl, rfl, rfl, rfl, ?_⟩
  show jo X 2 (13, 166) _ _ [(h_, .inr (2, [.ref q1, .int 0, .int 0])), (q1, .inl (tc.2.2, 10, .inr (.inr (.inr (.inr (va_up (va_up (va_up (va_up (va_up (fun _ => none) 0 (some q2)) 1 (some q4)) 2 (some q6)) 3 (some q8)) 4 (some q10))))))), (q2, .inr (6, [.ref q3, .int 0])), (q3, .inl (tc.1, 24, .inl (fun _ => 0))), (q4, .inr (6, [.ref q5, .int 0])), (q5, .inl (tc.1, 24, .inl (fun _ => 0))), (q6, .inr (6, [.ref q7, .int 0])), (q7, .inl (tc.1, 24, .inl (fun _ => 0))), (q8, .inr (6, [.ref q9, .int 0])), (q9, .inl (tc.1, 24, .inl (fun _ => 0))), (q10, .inr (6, [.ref q11, .int 0])), (q11, .inl (tc.1, 24, .inl (fun _ => 0))), (q12, .inr (6, [.ref q13, .int 0])), (q13, .inl (tc.1, 24, .inl (fun _ => 0)))] 33 [(1, .int 5), (0, .ref h_)] [.ref q12, .int 5, .ref q1]
  refine j_aast (j := 5) C d2_init_33 1 12 rfl rfl rfl (Nat.le_of_ble_eq_true rfl) (Nat.le_of_ble_eq_true rfl) (ws' := [(h_, .inr (2, [.ref q1, .int 0, .int 0])), (q1, .inl (tc.2.2, 10, .inr (.inr (.inr (.inr (va_up (va_up (va_up (va_up (va_up (va_up (fun _ => none) 0 (some q2)) 1 (some q4)) 2 (some q6)) 3 (some q8)) 4 (some q10)) 5 (some q12))))))), (q2, .inr (6, [.ref q3, .int 0])), (q3, .inl (tc.1, 24, .inl (fun _ => 0))), (q4, .inr (6, [.ref q5, .int 0])), (q5, .inl (tc.1, 24, .inl (fun _ => 0))), (q6, .inr (6, [.ref q7, .int 0])), (q7, .inl (tc.1, 24, .inl (fun _ => 0))), (q8, .inr (6, [.ref q9, .int 0])), (q9, .inl (tc.1, 24, .inl (fun _ => 0))), (q10, .inr (6, [.ref q11, .int 0])), (q11, .inl (tc.1, 24, .inl (fun _ => 0))), (q12, .inr (6, [.ref q13, .int 0])), (q13, .inl (tc.1, 24, .inl (fun _ => 0)))]) rfl ?_
  refine j_iinc (v := 6) (lv' := [(1, .int 6), (0, .ref h_)]) C d2_init_34 0 rfl (by decide +kernel) (by decide) rfl ?_
  refine j_goto C d2_init_37 ?_
  refine j_iload C d2_init_15 0 rfl ?_
  refine j_const C d2_init_16 ?_
  refine j_icmp_geF C d2_init_18 (by decide +kernel) ?_
  refine j_aload C d2_init_21 1 rfl ?_
  refine j_get C d2_init_22 fl2_11 0 rfl rfl ?_
  refine j_iload C d2_init_25 0 rfl ?_
  refine j_new C (fun q14 => [(h_, .inr (2, [.ref q1, .int 0, .int 0])), (q1, .inl (tc.2.2, 10, .inr (.inr (.inr (.inr (va_up (va_up (va_up (va_up (va_up (va_up (fun _ => none) 0 (some q2)) 1 (some q4)) 2 (some q6)) 3 (some q8)) 4 (some q10)) 5 (some q12))))))), (q2, .inr (6, [.ref q3, .int 0])), (q3, .inl (tc.1, 24, .inl (fun _ => 0))), (q4, .inr (6, [.ref q5, .int 0])), (q5, .inl (tc.1, 24, .inl (fun _ => 0))), (q6, .inr (6, [.ref q7, .int 0])), (q7, .inl (tc.1, 24, .inl (fun _ => 0))), (q8, .inr (6, [.ref q9, .int 0])), (q9, .inl (tc.1, 24, .inl (fun _ => 0))), (q10, .inr (6, [.ref q11, .int 0])), (q11, .inl (tc.1, 24, .inl (fun _ => 0))), (q12, .inr (6, [.ref q13, .int 0])), (q13, .inl (tc.1, 24, .inl (fun _ => 0))), (q14, .inr (6, [.null, .int 0]))]) d2_init_26 nw2_9 ⟨(Nat.le_of_ble_eq_true rfl), (Nat.le_of_ble_eq_true rfl)⟩ (fun _ => rfl) (fun q14 => ?_)
  refine j_dup C d2_init_29 rfl ?_
  refine j_callCN (As := []) C d2_init_30 mj2_17 (kX6_init _ _ tc q14) ⟨rfl, rfl, (Nat.le_of_ble_eq_true rfl), (Nat.le_of_ble_eq_true rfl)⟩ rfl [14] rfl rfl rfl (Nat.le_of_ble_eq_true rfl) ⟨(Nat.le_of_ble_eq_true rfl), (Nat.le_of_ble_eq_true rfl)⟩ (fun o w hw => ?_)
  obtain ⟨q15, rfl⟩ := hw
  refine ⟨[(q14, .inr (6, [.ref q15, .int 0]))], [(q15, .inl (tc.1, 24, .inl (fun _ => 0)))], rfl, rfl, rfl, rfl, ?_⟩
  show jo X 2 (15, 192) _ _ [(h_, .inr (2, [.ref q1, .int 0, .int 0])), (q1, .inl (tc.2.2, 10, .inr (.inr (.inr (.inr (va_up (va_up (va_up (va_up (va_up (va_up (fun _ => none) 0 (some q2)) 1 (some q4)) 2 (some q6)) 3 (some q8)) 4 (some q10)) 5 (some q12))))))), (q2, .inr (6, [.ref q3, .int 0])), (q3, .inl (tc.1, 24, .inl (fun _ => 0))), (q4, .inr (6, [.ref q5, .int 0])), (q5, .inl (tc.1, 24, .inl (fun _ => 0))), (q6, .inr (6, [.ref q7, .int 0])), (q7, .inl (tc.1, 24, .inl (fun _ => 0))), (q8, .inr (6, [.ref q9, .int 0])), (q9, .inl (tc.1, 24, .inl (fun _ => 0))), (q10, .inr (6, [.ref q11, .int 0])), (q11, .inl (tc.1, 24, .inl (fun _ => 0))), (q12, .inr (6, [.ref q13, .int 0])), (q13, .inl (tc.1, 24, .inl (fun _ => 0))), (q14, .inr (6, [.ref q15, .int 0])), (q15, .inl (tc.1, 24, .inl (fun _ => 0)))] 33 [(1, .int 6), (0, .ref h_)] [.ref q14, .int 6, .ref q1]
  refine j_aast (j := 6) C d2_init_33 1 14 rfl rfl rfl (Nat.le_of_ble_eq_true rfl) (Nat.le_of_ble_eq_true rfl) (ws' := [(h_, .inr (2, [.ref q1, .int 0, .int 0])), (q1, .inl (tc.2.2, 10, .inr (.inr (.inr (.inr (va_up (va_up (va_up (va_up (va_up (va_up (va_up (fun _ => none) 0 (some q2)) 1 (some q4)) 2 (some q6)) 3 (some q8)) 4 (some q10)) 5 (some q12)) 6 (some q14))))))), (q2, .inr (6, [.ref q3, .int 0])), (q3, .inl (tc.1, 24, .inl (fun _ => 0))), (q4, .inr (6, [.ref q5, .int 0])), (q5, .inl (tc.1, 24, .inl (fun _ => 0))), (q6, .inr (6, [.ref q7, .int 0])), (q7, .inl (tc.1, 24, .inl (fun _ => 0))), (q8, .inr (6, [.ref q9, .int 0])), (q9, .inl (tc.1, 24, .inl (fun _ => 0))), (q10, .inr (6, [.ref q11, .int 0])), (q11, .inl (tc.1, 24, .inl (fun _ => 0))), (q12, .inr (6, [.ref q13, .int 0])), (q13, .inl (tc.1, 24, .inl (fun _ => 0))), (q14, .inr (6, [.ref q15, .int 0])), (q15, .inl (tc.1, 24, .inl (fun _ => 0)))]) rfl ?_
  refine j_iinc (v := 7) (lv' := [(1, .int 7), (0, .ref h_)]) C d2_init_34 0 rfl (by decide +kernel) (by decide) rfl ?_
  refine j_goto C d2_init_37 ?_
  refine j_iload C d2_init_15 0 rfl ?_
  refine j_const C d2_init_16 ?_
  refine j_icmp_geF C d2_init_18 (by decide +kernel) ?_
  refine j_aload C d2_init_21 1 rfl ?_
  refine j_get C d2_init_22 fl2_11 0 rfl rfl ?_
  refine j_iload C d2_init_25 0 rfl ?_
  refine j_new C (fun q16 => [(h_, .inr (2, [.ref q1, .int 0, .int 0])), (q1, .inl (tc.2.2, 10, .inr (.inr (.inr (.inr (va_up (va_up (va_up (va_up (va_up (va_up (va_up (fun _ => none) 0 (some q2)) 1 (some q4)) 2 (some q6)) 3 (some q8)) 4 (some q10)) 5 (some q12)) 6 (some q14))))))), (q2, .inr (6, [.ref q3, .int 0])), (q3, .inl (tc.1, 24, .inl (fun _ => 0))), (q4, .inr (6, [.ref q5, .int 0])), (q5, .inl (tc.1, 24, .inl (fun _ => 0))), (q6, .inr (6, [.ref q7, .int 0])), (q7, .inl (tc.1, 24, .inl (fun _ => 0))), (q8, .inr (6, [.ref q9, .int 0])), (q9, .inl (tc.1, 24, .inl (fun _ => 0))), (q10, .inr (6, [.ref q11, .int 0])), (q11, .inl (tc.1, 24, .inl (fun _ => 0))), (q12, .inr (6, [.ref q13, .int 0])), (q13, .inl (tc.1, 24, .inl (fun _ => 0))), (q14, .inr (6, [.ref q15, .int 0])), (q15, .inl (tc.1, 24, .inl (fun _ => 0))), (q16, .inr (6, [.null, .int 0]))]) d2_init_26 nw2_9 ⟨(Nat.le_of_ble_eq_true rfl), (Nat.le_of_ble_eq_true rfl)⟩ (fun _ => rfl) (fun q16 => ?_)
  refine j_dup C d2_init_29 rfl ?_
  refine j_callCN (As := []) C d2_init_30 mj2_17 (kX6_init _ _ tc q16) ⟨rfl, rfl, (Nat.le_of_ble_eq_true rfl), (Nat.le_of_ble_eq_true rfl)⟩ rfl [16] rfl rfl rfl (Nat.le_of_ble_eq_true rfl) ⟨(Nat.le_of_ble_eq_true rfl), (Nat.le_of_ble_eq_true rfl)⟩ (fun o w hw => ?_)
  obtain ⟨q17, rfl⟩ := hw
  refine ⟨[(q16, .inr (6, [.ref q17, .int 0]))], [(q17, .inl (tc.1, 24, .inl (fun _ => 0)))], rfl, rfl, rfl, rfl, ?_⟩
  show jo X 2 (17, 218) _ _ [(h_, .inr (2, [.ref q1, .int 0, .int 0])), (q1, .inl (tc.2.2, 10, .inr (.inr (.inr (.inr (va_up (va_up (va_up (va_up (va_up (va_up (va_up (fun _ => none) 0 (some q2)) 1 (some q4)) 2 (some q6)) 3 (some q8)) 4 (some q10)) 5 (some q12)) 6 (some q14))))))), (q2, .inr (6, [.ref q3, .int 0])), (q3, .inl (tc.1, 24, .inl (fun _ => 0))), (q4, .inr (6, [.ref q5, .int 0])), (q5, .inl (tc.1, 24, .inl (fun _ => 0))), (q6, .inr (6, [.ref q7, .int 0])), (q7, .inl (tc.1, 24, .inl (fun _ => 0))), (q8, .inr (6, [.ref q9, .int 0])), (q9, .inl (tc.1, 24, .inl (fun _ => 0))), (q10, .inr (6, [.ref q11, .int 0])), (q11, .inl (tc.1, 24, .inl (fun _ => 0))), (q12, .inr (6, [.ref q13, .int 0])), (q13, .inl (tc.1, 24, .inl (fun _ => 0))), (q14, .inr (6, [.ref q15, .int 0])), (q15, .inl (tc.1, 24, .inl (fun _ => 0))), (q16, .inr (6, [.ref q17, .int 0])), (q17, .inl (tc.1, 24, .inl (fun _ => 0)))] 33 [(1, .int 7), (0, .ref h_)] [.ref q16, .int 7, .ref q1]
  refine j_aast (j := 7) C d2_init_33 1 16 rfl rfl rfl (Nat.le_of_ble_eq_true rfl) (Nat.le_of_ble_eq_true rfl) (ws' := [(h_, .inr (2, [.ref q1, .int 0, .int 0])), (q1, .inl (tc.2.2, 10, .inr (.inr (.inr (.inr (va_up (va_up (va_up (va_up (va_up (va_up (va_up (va_up (fun _ => none) 0 (some q2)) 1 (some q4)) 2 (some q6)) 3 (some q8)) 4 (some q10)) 5 (some q12)) 6 (some q14)) 7 (some q16))))))), (q2, .inr (6, [.ref q3, .int 0])), (q3, .inl (tc.1, 24, .inl (fun _ => 0))), (q4, .inr (6, [.ref q5, .int 0])), (q5, .inl (tc.1, 24, .inl (fun _ => 0))), (q6, .inr (6, [.ref q7, .int 0])), (q7, .inl (tc.1, 24, .inl (fun _ => 0))), (q8, .inr (6, [.ref q9, .int 0])), (q9, .inl (tc.1, 24, .inl (fun _ => 0))), (q10, .inr (6, [.ref q11, .int 0])), (q11, .inl (tc.1, 24, .inl (fun _ => 0))), (q12, .inr (6, [.ref q13, .int 0])), (q13, .inl (tc.1, 24, .inl (fun _ => 0))), (q14, .inr (6, [.ref q15, .int 0])), (q15, .inl (tc.1, 24, .inl (fun _ => 0))), (q16, .inr (6, [.ref q17, .int 0])), (q17, .inl (tc.1, 24, .inl (fun _ => 0)))]) rfl ?_
  refine j_iinc (v := 8) (lv' := [(1, .int 8), (0, .ref h_)]) C d2_init_34 0 rfl (by decide +kernel) (by decide) rfl ?_
  refine j_goto C d2_init_37 ?_
  refine j_iload C d2_init_15 0 rfl ?_
  refine j_const C d2_init_16 ?_
  refine j_icmp_geF C d2_init_18 (by decide +kernel) ?_
  refine j_aload C d2_init_21 1 rfl ?_
  refine j_get C d2_init_22 fl2_11 0 rfl rfl ?_
  refine j_iload C d2_init_25 0 rfl ?_
  refine j_new C (fun q18 => [(h_, .inr (2, [.ref q1, .int 0, .int 0])), (q1, .inl (tc.2.2, 10, .inr (.inr (.inr (.inr (va_up (va_up (va_up (va_up (va_up (va_up (va_up (va_up (fun _ => none) 0 (some q2)) 1 (some q4)) 2 (some q6)) 3 (some q8)) 4 (some q10)) 5 (some q12)) 6 (some q14)) 7 (some q16))))))), (q2, .inr (6, [.ref q3, .int 0])), (q3, .inl (tc.1, 24, .inl (fun _ => 0))), (q4, .inr (6, [.ref q5, .int 0])), (q5, .inl (tc.1, 24, .inl (fun _ => 0))), (q6, .inr (6, [.ref q7, .int 0])), (q7, .inl (tc.1, 24, .inl (fun _ => 0))), (q8, .inr (6, [.ref q9, .int 0])), (q9, .inl (tc.1, 24, .inl (fun _ => 0))), (q10, .inr (6, [.ref q11, .int 0])), (q11, .inl (tc.1, 24, .inl (fun _ => 0))), (q12, .inr (6, [.ref q13, .int 0])), (q13, .inl (tc.1, 24, .inl (fun _ => 0))), (q14, .inr (6, [.ref q15, .int 0])), (q15, .inl (tc.1, 24, .inl (fun _ => 0))), (q16, .inr (6, [.ref q17, .int 0])), (q17, .inl (tc.1, 24, .inl (fun _ => 0))), (q18, .inr (6, [.null, .int 0]))]) d2_init_26 nw2_9 ⟨(Nat.le_of_ble_eq_true rfl), (Nat.le_of_ble_eq_true rfl)⟩ (fun _ => rfl) (fun q18 => ?_)
  refine j_dup C d2_init_29 rfl ?_
  refine j_callCN (As := []) C d2_init_30 mj2_17 (kX6_init _ _ tc q18) ⟨rfl, rfl, (Nat.le_of_ble_eq_true rfl), (Nat.le_of_ble_eq_true rfl)⟩ rfl [18] rfl rfl rfl (Nat.le_of_ble_eq_true rfl) ⟨(Nat.le_of_ble_eq_true rfl), (Nat.le_of_ble_eq_true rfl)⟩ (fun o w hw => ?_)
  obtain ⟨q19, rfl⟩ := hw
  refine ⟨[(q18, .inr (6, [.ref q19, .int 0]))], [(q19, .inl (tc.1, 24, .inl (fun _ => 0)))], rfl, rfl, rfl, rfl, ?_⟩
  show jo X 2 (19, 244) _ _ [(h_, .inr (2, [.ref q1, .int 0, .int 0])), (q1, .inl (tc.2.2, 10, .inr (.inr (.inr (.inr (va_up (va_up (va_up (va_up (va_up (va_up (va_up (va_up (fun _ => none) 0 (some q2)) 1 (some q4)) 2 (some q6)) 3 (some q8)) 4 (some q10)) 5 (some q12)) 6 (some q14)) 7 (some q16))))))), (q2, .inr (6, [.ref q3, .int 0])), (q3, .inl (tc.1, 24, .inl (fun _ => 0))), (q4, .inr (6, [.ref q5, .int 0])), (q5, .inl (tc.1, 24, .inl (fun _ => 0))), (q6, .inr (6, [.ref q7, .int 0])), (q7, .inl (tc.1, 24, .inl (fun _ => 0))), (q8, .inr (6, [.ref q9, .int 0])), (q9, .inl (tc.1, 24, .inl (fun _ => 0))), (q10, .inr (6, [.ref q11, .int 0])), (q11, .inl (tc.1, 24, .inl (fun _ => 0))), (q12, .inr (6, [.ref q13, .int 0])), (q13, .inl (tc.1, 24, .inl (fun _ => 0))), (q14, .inr (6, [.ref q15, .int 0])), (q15, .inl (tc.1, 24, .inl (fun _ => 0))), (q16, .inr (6, [.ref q17, .int 0])), (q17, .inl (tc.1, 24, .inl (fun _ => 0))), (q18, .inr (6, [.ref q19, .int 0])), (q19, .inl (tc.1, 24, .inl (fun _ => 0)))] 33 [(1, .int 8), (0, .ref h_)] [.ref q18, .int 8, .ref q1]
  refine j_aast (j := 8) C d2_init_33 1 18 rfl rfl rfl (Nat.le_of_ble_eq_true rfl) (Nat.le_of_ble_eq_true rfl) (ws' := [(h_, .inr (2, [.ref q1, .int 0, .int 0])), (q1, .inl (tc.2.2, 10, .inr (.inr (.inr (.inr (va_up (va_up (va_up (va_up (va_up (va_up (va_up (va_up (va_up (fun _ => none) 0 (some q2)) 1 (some q4)) 2 (some q6)) 3 (some q8)) 4 (some q10)) 5 (some q12)) 6 (some q14)) 7 (some q16)) 8 (some q18))))))), (q2, .inr (6, [.ref q3, .int 0])), (q3, .inl (tc.1, 24, .inl (fun _ => 0))), (q4, .inr (6, [.ref q5, .int 0])), (q5, .inl (tc.1, 24, .inl (fun _ => 0))), (q6, .inr (6, [.ref q7, .int 0])), (q7, .inl (tc.1, 24, .inl (fun _ => 0))), (q8, .inr (6, [.ref q9, .int 0])), (q9, .inl (tc.1, 24, .inl (fun _ => 0))), (q10, .inr (6, [.ref q11, .int 0])), (q11, .inl (tc.1, 24, .inl (fun _ => 0))), (q12, .inr (6, [.ref q13, .int 0])), (q13, .inl (tc.1, 24, .inl (fun _ => 0))), (q14, .inr (6, [.ref q15, .int 0])), (q15, .inl (tc.1, 24, .inl (fun _ => 0))), (q16, .inr (6, [.ref q17, .int 0])), (q17, .inl (tc.1, 24, .inl (fun _ => 0))), (q18, .inr (6, [.ref q19, .int 0])), (q19, .inl (tc.1, 24, .inl (fun _ => 0)))]) rfl ?_
  refine j_iinc (v := 9) (lv' := [(1, .int 9), (0, .ref h_)]) C d2_init_34 0 rfl (by decide +kernel) (by decide) rfl ?_
  refine j_goto C d2_init_37 ?_
  refine j_iload C d2_init_15 0 rfl ?_
  refine j_const C d2_init_16 ?_
  refine j_icmp_geF C d2_init_18 (by decide +kernel) ?_
  refine j_aload C d2_init_21 1 rfl ?_
  refine j_get C d2_init_22 fl2_11 0 rfl rfl ?_
  refine j_iload C d2_init_25 0 rfl ?_
  refine j_new C (fun q20 => [(h_, .inr (2, [.ref q1, .int 0, .int 0])), (q1, .inl (tc.2.2, 10, .inr (.inr (.inr (.inr (va_up (va_up (va_up (va_up (va_up (va_up (va_up (va_up (va_up (fun _ => none) 0 (some q2)) 1 (some q4)) 2 (some q6)) 3 (some q8)) 4 (some q10)) 5 (some q12)) 6 (some q14)) 7 (some q16)) 8 (some q18))))))), (q2, .inr (6, [.ref q3, .int 0])), (q3, .inl (tc.1, 24, .inl (fun _ => 0))), (q4, .inr (6, [.ref q5, .int 0])), (q5, .inl (tc.1, 24, .inl (fun _ => 0))), (q6, .inr (6, [.ref q7, .int 0])), (q7, .inl (tc.1, 24, .inl (fun _ => 0))), (q8, .inr (6, [.ref q9, .int 0])), (q9, .inl (tc.1, 24, .inl (fun _ => 0))), (q10, .inr (6, [.ref q11, .int 0])), (q11, .inl (tc.1, 24, .inl (fun _ => 0))), (q12, .inr (6, [.ref q13, .int 0])), (q13, .inl (tc.1, 24, .inl (fun _ => 0))), (q14, .inr (6, [.ref q15, .int 0])), (q15, .inl (tc.1, 24, .inl (fun _ => 0))), (q16, .inr (6, [.ref q17, .int 0])), (q17, .inl (tc.1, 24, .inl (fun _ => 0))), (q18, .inr (6, [.ref q19, .int 0])), (q19, .inl (tc.1, 24, .inl (fun _ => 0))), (q20, .inr (6, [.null, .int 0]))]) d2_init_26 nw2_9 ⟨(Nat.le_of_ble_eq_true rfl), (Nat.le_of_ble_eq_true rfl)⟩ (fun _ => rfl) (fun q20 => ?_)
  refine j_dup C d2_init_29 rfl ?_
  refine j_callCN (As := []) C d2_init_30 mj2_17 (kX6_init _ _ tc q20) ⟨rfl, rfl, (Nat.le_of_ble_eq_true rfl), (Nat.le_of_ble_eq_true rfl)⟩ rfl [20] rfl rfl rfl (Nat.le_of_ble_eq_true rfl) ⟨(Nat.le_of_ble_eq_true rfl), (Nat.le_of_ble_eq_true rfl)⟩ (fun o w hw => ?_)
  obtain ⟨q21, rfl⟩ := hw
  refine ⟨[(q20, .inr (6, [.ref q21, .int 0]))], [(q21, .inl (tc.1, 24, .inl (fun _ => 0)))], rfl, rfl, rfl, rfl, ?_⟩
  show jo X 2 (21, 270) _ _ [(h_, .inr (2, [.ref q1, .int 0, .int 0])), (q1, .inl (tc.2.2, 10, .inr (.inr (.inr (.inr (va_up (va_up (va_up (va_up (va_up (va_up (va_up (va_up (va_up (fun _ => none) 0 (some q2)) 1 (some q4)) 2 (some q6)) 3 (some q8)) 4 (some q10)) 5 (some q12)) 6 (some q14)) 7 (some q16)) 8 (some q18))))))), (q2, .inr (6, [.ref q3, .int 0])), (q3, .inl (tc.1, 24, .inl (fun _ => 0))), (q4, .inr (6, [.ref q5, .int 0])), (q5, .inl (tc.1, 24, .inl (fun _ => 0))), (q6, .inr (6, [.ref q7, .int 0])), (q7, .inl (tc.1, 24, .inl (fun _ => 0))), (q8, .inr (6, [.ref q9, .int 0])), (q9, .inl (tc.1, 24, .inl (fun _ => 0))), (q10, .inr (6, [.ref q11, .int 0])), (q11, .inl (tc.1, 24, .inl (fun _ => 0))), (q12, .inr (6, [.ref q13, .int 0])), (q13, .inl (tc.1, 24, .inl (fun _ => 0))), (q14, .inr (6, [.ref q15, .int 0])), (q15, .inl (tc.1, 24, .inl (fun _ => 0))), (q16, .inr (6, [.ref q17, .int 0])), (q17, .inl (tc.1, 24, .inl (fun _ => 0))), (q18, .inr (6, [.ref q19, .int 0])), (q19, .inl (tc.1, 24, .inl (fun _ => 0))), (q20, .inr (6, [.ref q21, .int 0])), (q21, .inl (tc.1, 24, .inl (fun _ => 0)))] 33 [(1, .int 9), (0, .ref h_)] [.ref q20, .int 9, .ref q1]
  refine j_aast (j := 9) C d2_init_33 1 20 rfl rfl rfl (Nat.le_of_ble_eq_true rfl) (Nat.le_of_ble_eq_true rfl) (ws' := [(h_, .inr (2, [.ref q1, .int 0, .int 0])), (q1, .inl (tc.2.2, 10, .inr (.inr (.inr (.inr (va_up (va_up (va_up (va_up (va_up (va_up (va_up (va_up (va_up (va_up (fun _ => none) 0 (some q2)) 1 (some q4)) 2 (some q6)) 3 (some q8)) 4 (some q10)) 5 (some q12)) 6 (some q14)) 7 (some q16)) 8 (some q18)) 9 (some q20))))))), (q2, .inr (6, [.ref q3, .int 0])), (q3, .inl (tc.1, 24, .inl (fun _ => 0))), (q4, .inr (6, [.ref q5, .int 0])), (q5, .inl (tc.1, 24, .inl (fun _ => 0))), (q6, .inr (6, [.ref q7, .int 0])), (q7, .inl (tc.1, 24, .inl (fun _ => 0))), (q8, .inr (6, [.ref q9, .int 0])), (q9, .inl (tc.1, 24, .inl (fun _ => 0))), (q10, .inr (6, [.ref q11, .int 0])), (q11, .inl (tc.1, 24, .inl (fun _ => 0))), (q12, .inr (6, [.ref q13, .int 0])), (q13, .inl (tc.1, 24, .inl (fun _ => 0))), (q14, .inr (6, [.ref q15, .int 0])), (q15, .inl (tc.1, 24, .inl (fun _ => 0))), (q16, .inr (6, [.ref q17, .int 0])), (q17, .inl (tc.1, 24, .inl (fun _ => 0))), (q18, .inr (6, [.ref q19, .int 0])), (q19, .inl (tc.1, 24, .inl (fun _ => 0))), (q20, .inr (6, [.ref q21, .int 0])), (q21, .inl (tc.1, 24, .inl (fun _ => 0)))]) rfl ?_
  refine j_iinc (v := 10) (lv' := [(1, .int 10), (0, .ref h_)]) C d2_init_34 0 rfl (by decide +kernel) (by decide) rfl ?_
  refine j_goto C d2_init_37 ?_
  refine j_iload C d2_init_15 0 rfl ?_
  refine j_const C d2_init_16 ?_
  refine j_icmp_geT C d2_init_18 (by decide +kernel) ?_
  exact j_cret C d2_init_40 ⟨_, _, _, _, _, _, _, _, _, _, _, _, _, _, _, _, _, _, _, _, _, rfl⟩

theorem d4_init_0 : jda cX4_init 0 0 1 := Or.inl ⟨0, by decide +kernel⟩
theorem d4_init_1 : jd cX4_init 1 (.invokespecial 3) 3 4 := by decide +kernel
theorem d4_init_4 : jda cX4_init 4 0 5 := Or.inl ⟨0, by decide +kernel⟩
theorem d4_init_5 : jdk cX4_init 5 8 7 := Or.inr (Or.inl ⟨8, by decide +kernel⟩)
theorem d4_init_7 : jd cX4_init 7 (.newarray .int) 2 9 := by decide +kernel
theorem d4_init_9 : jd cX4_init 9 (.putfield 9) 3 12 := by decide +kernel
theorem d4_init_12 : jda cX4_init 12 0 13 := Or.inl ⟨0, by decide +kernel⟩
theorem d4_init_13 : jdk cX4_init 13 300 16 := Or.inr (Or.inr ⟨300, by decide +kernel⟩)
theorem d4_init_16 : jd cX4_init 16 (.newarray .int) 2 18 := by decide +kernel
theorem d4_init_18 : jd cX4_init 18 (.putfield 15) 3 21 := by decide +kernel
theorem d4_init_21 : jda cX4_init 21 0 22 := Or.inl ⟨0, by decide +kernel⟩
theorem d4_init_22 : jd cX4_init 22 (.new 18) 3 25 := by decide +kernel
theorem d4_init_25 : jd cX4_init 25 (.dup) 1 26 := by decide +kernel
theorem d4_init_26 : jd cX4_init 26 (.invokespecial 20) 3 29 := by decide +kernel
theorem d4_init_29 : jd cX4_init 29 (.putfield 21) 3 32 := by decide +kernel
theorem d4_init_32 : jda cX4_init 32 0 33 := Or.inl ⟨0, by decide +kernel⟩
theorem d4_init_33 : jdk cX4_init 33 900 36 := Or.inr (Or.inr ⟨900, by decide +kernel⟩)
theorem d4_init_36 : jd cX4_init 36 (.newarray .int) 2 38 := by decide +kernel
theorem d4_init_38 : jd cX4_init 38 (.putfield 25) 3 41 := by decide +kernel
theorem d4_init_41 : jda cX4_init 41 0 42 := Or.inl ⟨0, by decide +kernel⟩
theorem d4_init_42 : jdk cX4_init 42 65 44 := Or.inr (Or.inl ⟨65, by decide +kernel⟩)
theorem d4_init_44 : jd cX4_init 44 (.newarray .int) 2 46 := by decide +kernel
theorem d4_init_46 : jd cX4_init 46 (.putfield 28) 3 49 := by decide +kernel
theorem d4_init_49 : jda cX4_init 49 0 50 := Or.inl ⟨0, by decide +kernel⟩
theorem d4_init_50 : jdk cX4_init 50 65 52 := Or.inr (Or.inl ⟨65, by decide +kernel⟩)
theorem d4_init_52 : jd cX4_init 52 (.newarray .int) 2 54 := by decide +kernel
theorem d4_init_54 : jd cX4_init 54 (.putfield 31) 3 57 := by decide +kernel
theorem d4_init_57 : jda cX4_init 57 0 58 := Or.inl ⟨0, by decide +kernel⟩
theorem d4_init_58 : jda cX4_init 58 1 59 := Or.inl ⟨1, by decide +kernel⟩
theorem d4_init_59 : jd cX4_init 59 (.putfield 34) 3 62 := by decide +kernel
theorem d4_init_62 : jda cX4_init 62 0 63 := Or.inl ⟨0, by decide +kernel⟩
theorem d4_init_63 : jda cX4_init 63 2 64 := Or.inl ⟨2, by decide +kernel⟩
theorem d4_init_64 : jd cX4_init 64 (.putfield 38) 3 67 := by decide +kernel
theorem d4_init_67 : jda cX4_init 67 0 68 := Or.inl ⟨0, by decide +kernel⟩
theorem d4_init_68 : jda cX4_init 68 3 69 := Or.inl ⟨3, by decide +kernel⟩
theorem d4_init_69 : jd cX4_init 69 (.putfield 42) 3 72 := by decide +kernel
theorem d4_init_72 : jda cX4_init 72 0 73 := Or.inl ⟨0, by decide +kernel⟩
theorem d4_init_73 : jda cX4_init 73 4 75 := Or.inr (by decide +kernel)
theorem d4_init_75 : jd cX4_init 75 (.putfield 46) 3 78 := by decide +kernel
theorem d4_init_78 : decode cX4_init 78 = .ok (.return_, 1) := by decide +kernel
def fX4_init : Option (Unit) :=
(fX9_init).bind fun _ =>
some ()
set_option maxHeartbeats 4000000 in
set_option maxRecDepth 100000 in
theorem kX4_init (l : Launch) (D : va_G) (tc : jTC) (h_ a_p1 a_p2 a_p3 a_p4 : Nat) : ctC l D tc yX4_init (Cond.code yX4_init cX4_init 5 none :: jtb) ({ frames := 2, cells := 9, slots := 2242, locals := 40 } : Room) [.ref h_, .ref a_p1, .ref a_p2, .ref a_p3, .ref a_p4] [(h_, .inr (4, [.null, .null, .null, .null, .null, .null, .int 0, .null, .null, .int 0, .null, .null, .int 0, .int 0, .int 0]))] 9 2242 (fX4_init) (fun (o : Unit) w => ∃ q1 q2 q3 q4 q5 q6 q7 q8 q9, w = [(h_, .inr (4, [.ref a_p1, .ref a_p2, .ref a_p3, .ref a_p4, .ref q1, .ref q2, .int 0, .ref q3, .ref q7, .int 0, .ref q8, .ref q9, .int 0, .int 0, .int 0])), (q1, .inl (tc.1, 8, .inl (fun _ => 0))), (q2, .inl (tc.1, 300, .inl (fun _ => 0))), (q3, .inr (9, [.ref q4, .ref q5, .ref q6, .int 0])), (q4, .inl (tc.1, 300, .inl (fun _ => 0))), (q5, .inl (tc.1, 300, .inl (fun _ => 0))), (q6, .inl (tc.1, 300, .inl (fun _ => 0))), (q7, .inl (tc.1, 900, .inl (fun _ => 0))), (q8, .inl (tc.1, 65, .inl (fun _ => 0))), (q9, .inl (tc.1, 65, .inl (fun _ => 0)))]) := by
  refine ctC_of (lv0 := [(0, .ref h_), (1, .ref a_p1), (2, .ref a_p2), (3, .ref a_p3), (4, .ref a_p4)]) (by decide +kernel) rfl (Nat.le_of_ble_eq_true rfl) rfl (fun X C hin => ?_)
  unfold fX4_init
  refine j_aload C d4_init_0 0 rfl ?_
  refine j_objInit C d4_init_1 ko4_3 lw_obI lw_obC ⟨(Nat.le_of_ble_eq_true rfl), (Nat.le_of_ble_eq_true rfl)⟩ (Nat.le_of_ble_eq_true rfl) ?_
  refine j_aload C d4_init_4 0 rfl ?_
  refine j_const C d4_init_5 ?_
  refine j_newi (N := 8) C (fun q1 => [(h_, .inr (4, [.null, .null, .null, .null, .null, .null, .int 0, .null, .null, .int 0, .null, .null, .int 0, .int 0, .int 0])), (q1, .inl (tc.1, 8, .inl (fun _ => 0)))]) d4_init_7 lw_aI rfl (Nat.le_of_ble_eq_true rfl) ⟨(Nat.le_of_ble_eq_true rfl), (Nat.le_of_ble_eq_true rfl)⟩ (fun _ => rfl) (fun q1 => ?_)
  refine j_putF C hin d4_init_9 fp4_9 0 rfl rfl rfl (Nat.le_of_ble_eq_true rfl) (ws' := [(h_, .inr (4, [.null, .null, .null, .null, .ref q1, .null, .int 0, .null, .null, .int 0, .null, .null, .int 0, .int 0, .int 0])), (q1, .inl (tc.1, 8, .inl (fun _ => 0)))]) rfl ?_
  refine j_aload C d4_init_12 0 rfl ?_
  refine j_const C d4_init_13 ?_
  refine j_newi (N := 300) C (fun q2 => [(h_, .inr (4, [.null, .null, .null, .null, .ref q1, .null, .int 0, .null, .null, .int 0, .null, .null, .int 0, .int 0, .int 0])), (q1, .inl (tc.1, 8, .inl (fun _ => 0))), (q2, .inl (tc.1, 300, .inl (fun _ => 0)))]) d4_init_16 lw_aI rfl (Nat.le_of_ble_eq_true rfl) ⟨(Nat.le_of_ble_eq_true rfl), (Nat.le_of_ble_eq_true rfl)⟩ (fun _ => rfl) (fun q2 => ?_)
  refine j_putF C hin d4_init_18 fp4_15 0 rfl rfl rfl (Nat.le_of_ble_eq_true rfl) (ws' := [(h_, .inr (4, [.null, .null, .null, .null, .ref q1, .ref q2, .int 0, .null, .null, .int 0, .null, .null, .int 0, .int 0, .int 0])), (q1, .inl (tc.1, 8, .inl (fun _ => 0))), (q2, .inl (tc.1, 300, .inl (fun _ => 0)))]) rfl ?_
  refine j_aload C d4_init_21 0 rfl ?_
  refine j_new C (fun q3 => [(h_, .inr (4, [.null, .null, .null, .null, .ref q1, .ref q2, .int 0, .null, .null, .int 0, .null, .null, .int 0, .int 0, .int 0])), (q1, .inl (tc.1, 8, .inl (fun _ => 0))), (q2, .inl (tc.1, 300, .inl (fun _ => 0))), (q3, .inr (9, [.null, .null, .null, .int 0]))]) d4_init_22 nw4_18 ⟨(Nat.le_of_ble_eq_true rfl), (Nat.le_of_ble_eq_true rfl)⟩ (fun _ => rfl) (fun q3 => ?_)
  refine j_dup C d4_init_25 rfl ?_
  refine j_callCN (As := []) C d4_init_26 mj4_20 (kX9_init _ _ tc q3) ⟨rfl, rfl, (Nat.le_of_ble_eq_true rfl), (Nat.le_of_ble_eq_true rfl)⟩ rfl [3] rfl rfl rfl (Nat.le_of_ble_eq_true rfl) ⟨(Nat.le_of_ble_eq_true rfl), (Nat.le_of_ble_eq_true rfl)⟩ (fun o w hw => ?_)
  obtain ⟨q4, q5, q6, rfl⟩ := hw
  refine ⟨[(q3, .inr (9, [.ref q4, .ref q5, .ref q6, .int 0]))], [(q4, .inl (tc.1, 300, .inl (fun _ => 0))), (q5, .inl (tc.1, 300, .inl (fun _ => 0))), (q6, .inl (tc.1, 300, .inl (fun _ => 0)))], rfl, rfl, rfl, rfl, ?_⟩
  show jo X 5 (6, 1212) _ _ [(h_, .inr (4, [.null, .null, .null, .null, .ref q1, .ref q2, .int 0, .null, .null, .int 0, .null, .null, .int 0, .int 0, .int 0])), (q1, .inl (tc.1, 8, .inl (fun _ => 0))), (q2, .inl (tc.1, 300, .inl (fun _ => 0))), (q3, .inr (9, [.ref q4, .ref q5, .ref q6, .int 0])), (q4, .inl (tc.1, 300, .inl (fun _ => 0))), (q5, .inl (tc.1, 300, .inl (fun _ => 0))), (q6, .inl (tc.1, 300, .inl (fun _ => 0)))] 29 [(0, .ref h_), (1, .ref a_p1), (2, .ref a_p2), (3, .ref a_p3), (4, .ref a_p4)] [.ref q3, .ref h_]
  refine j_putF C hin d4_init_29 fp4_21 0 rfl rfl rfl (Nat.le_of_ble_eq_true rfl) (ws' := [(h_, .inr (4, [.null, .null, .null, .null, .ref q1, .ref q2, .int 0, .ref q3, .null, .int 0, .null, .null, .int 0, .int 0, .int 0])), (q1, .inl (tc.1, 8, .inl (fun _ => 0))), (q2, .inl (tc.1, 300, .inl (fun _ => 0))), (q3, .inr (9, [.ref q4, .ref q5, .ref q6, .int 0])), (q4, .inl (tc.1, 300, .inl (fun _ => 0))), (q5, .inl (tc.1, 300, .inl (fun _ => 0))), (q6, .inl (tc.1, 300, .inl (fun _ => 0)))]) rfl ?_
  refine j_aload C d4_init_32 0 rfl ?_
  refine j_const C d4_init_33 ?_
  refine j_newi (N := 900) C (fun q7 => [(h_, .inr (4, [.null, .null, .null, .null, .ref q1, .ref q2, .int 0, .ref q3, .null, .int 0, .null, .null, .int 0, .int 0, .int 0])), (q1, .inl (tc.1, 8, .inl (fun _ => 0))), (q2, .inl (tc.1, 300, .inl (fun _ => 0))), (q3, .inr (9, [.ref q4, .ref q5, .ref q6, .int 0])), (q4, .inl (tc.1, 300, .inl (fun _ => 0))), (q5, .inl (tc.1, 300, .inl (fun _ => 0))), (q6, .inl (tc.1, 300, .inl (fun _ => 0))), (q7, .inl (tc.1, 900, .inl (fun _ => 0)))]) d4_init_36 lw_aI rfl (Nat.le_of_ble_eq_true rfl) ⟨(Nat.le_of_ble_eq_true rfl), (Nat.le_of_ble_eq_true rfl)⟩ (fun _ => rfl) (fun q7 => ?_)
  refine j_putF C hin d4_init_38 fp4_25 0 rfl rfl rfl (Nat.le_of_ble_eq_true rfl) (ws' := [(h_, .inr (4, [.null, .null, .null, .null, .ref q1, .ref q2, .int 0, .ref q3, .ref q7, .int 0, .null, .null, .int 0, .int 0, .int 0])), (q1, .inl (tc.1, 8, .inl (fun _ => 0))), (q2, .inl (tc.1, 300, .inl (fun _ => 0))), (q3, .inr (9, [.ref q4, .ref q5, .ref q6, .int 0])), (q4, .inl (tc.1, 300, .inl (fun _ => 0))), (q5, .inl (tc.1, 300, .inl (fun _ => 0))), (q6, .inl (tc.1, 300, .inl (fun _ => 0))), (q7, .inl (tc.1, 900, .inl (fun _ => 0)))]) rfl ?_
  refine j_aload C d4_init_41 0 rfl ?_
  refine j_const C d4_init_42 ?_
  refine j_newi (N := 65) C (fun q8 => [(h_, .inr (4, [.null, .null, .null, .null, .ref q1, .ref q2, .int 0, .ref q3, .ref q7, .int 0, .null, .null, .int 0, .int 0, .int 0])), (q1, .inl (tc.1, 8, .inl (fun _ => 0))), (q2, .inl (tc.1, 300, .inl (fun _ => 0))), (q3, .inr (9, [.ref q4, .ref q5, .ref q6, .int 0])), (q4, .inl (tc.1, 300, .inl (fun _ => 0))), (q5, .inl (tc.1, 300, .inl (fun _ => 0))), (q6, .inl (tc.1, 300, .inl (fun _ => 0))), (q7, .inl (tc.1, 900, .inl (fun _ => 0))), (q8, .inl (tc.1, 65, .inl (fun _ => 0)))]) d4_init_44 lw_aI rfl (Nat.le_of_ble_eq_true rfl) ⟨(Nat.le_of_ble_eq_true rfl), (Nat.le_of_ble_eq_true rfl)⟩ (fun _ => rfl) (fun q8 => ?_)
  refine j_putF C hin d4_init_46 fp4_28 0 rfl rfl rfl (Nat.le_of_ble_eq_true rfl) (ws' := [(h_, .inr (4, [.null, .null, .null, .null, .ref q1, .ref q2, .int 0, .ref q3, .ref q7, .int 0, .ref q8, .null, .int 0, .int 0, .int 0])), (q1, .inl (tc.1, 8, .inl (fun _ => 0))), (q2, .inl (tc.1, 300, .inl (fun _ => 0))), (q3, .inr (9, [.ref q4, .ref q5, .ref q6, .int 0])), (q4, .inl (tc.1, 300, .inl (fun _ => 0))), (q5, .inl (tc.1, 300, .inl (fun _ => 0))), (q6, .inl (tc.1, 300, .inl (fun _ => 0))), (q7, .inl (tc.1, 900, .inl (fun _ => 0))), (q8, .inl (tc.1, 65, .inl (fun _ => 0)))]) rfl ?_
  refine j_aload C d4_init_49 0 rfl ?_
  refine j_const C d4_init_50 ?_
  refine j_newi (N := 65) C (fun q9 => [(h_, .inr (4, [.null, .null, .null, .null, .ref q1, .ref q2, .int 0, .ref q3, .ref q7, .int 0, .ref q8, .null, .int 0, .int 0, .int 0])), (q1, .inl (tc.1, 8, .inl (fun _ => 0))), (q2, .inl (tc.1, 300, .inl (fun _ => 0))), (q3, .inr (9, [.ref q4, .ref q5, .ref q6, .int 0])), (q4, .inl (tc.1, 300, .inl (fun _ => 0))), (q5, .inl (tc.1, 300, .inl (fun _ => 0))), (q6, .inl (tc.1, 300, .inl (fun _ => 0))), (q7, .inl (tc.1, 900, .inl (fun _ => 0))), (q8, .inl (tc.1, 65, .inl (fun _ => 0))), (q9, .inl (tc.1, 65, .inl (fun _ => 0)))]) d4_init_52 lw_aI rfl (Nat.le_of_ble_eq_true rfl) ⟨(Nat.le_of_ble_eq_true rfl), (Nat.le_of_ble_eq_true rfl)⟩ (fun _ => rfl) (fun q9 => ?_)
  refine j_putF C hin d4_init_54 fp4_31 0 rfl rfl rfl (Nat.le_of_ble_eq_true rfl) (ws' := [(h_, .inr (4, [.null, .null, .null, .null, .ref q1, .ref q2, .int 0, .ref q3, .ref q7, .int 0, .ref q8, .ref q9, .int 0, .int 0, .int 0])), (q1, .inl (tc.1, 8, .inl (fun _ => 0))), (q2, .inl (tc.1, 300, .inl (fun _ => 0))), (q3, .inr (9, [.ref q4, .ref q5, .ref q6, .int 0])), (q4, .inl (tc.1, 300, .inl (fun _ => 0))), (q5, .inl (tc.1, 300, .inl (fun _ => 0))), (q6, .inl (tc.1, 300, .inl (fun _ => 0))), (q7, .inl (tc.1, 900, .inl (fun _ => 0))), (q8, .inl (tc.1, 65, .inl (fun _ => 0))), (q9, .inl (tc.1, 65, .inl (fun _ => 0)))]) rfl ?_
  refine j_aload C d4_init_57 0 rfl ?_
  refine j_aload C d4_init_58 1 rfl ?_
  refine j_putF C hin d4_init_59 fp4_34 0 rfl rfl rfl (Nat.le_of_ble_eq_true rfl) (ws' := [(h_, .inr (4, [.ref a_p1, .null, .null, .null, .ref q1, .ref q2, .int 0, .ref q3, .ref q7, .int 0, .ref q8, .ref q9, .int 0, .int 0, .int 0])), (q1, .inl (tc.1, 8, .inl (fun _ => 0))), (q2, .inl (tc.1, 300, .inl (fun _ => 0))), (q3, .inr (9, [.ref q4, .ref q5, .ref q6, .int 0])), (q4, .inl (tc.1, 300, .inl (fun _ => 0))), (q5, .inl (tc.1, 300, .inl (fun _ => 0))), (q6, .inl (tc.1, 300, .inl (fun _ => 0))), (q7, .inl (tc.1, 900, .inl (fun _ => 0))), (q8, .inl (tc.1, 65, .inl (fun _ => 0))), (q9, .inl (tc.1, 65, .inl (fun _ => 0)))]) rfl ?_
  refine j_aload C d4_init_62 0 rfl ?_
  refine j_aload C d4_init_63 2 rfl ?_
  refine j_putF C hin d4_init_64 fp4_38 0 rfl rfl rfl (Nat.le_of_ble_eq_true rfl) (ws' := [(h_, .inr (4, [.ref a_p1, .ref a_p2, .null, .null, .ref q1, .ref q2, .int 0, .ref q3, .ref q7, .int 0, .ref q8, .ref q9, .int 0, .int 0, .int 0])), (q1, .inl (tc.1, 8, .inl (fun _ => 0))), (q2, .inl (tc.1, 300, .inl (fun _ => 0))), (q3, .inr (9, [.ref q4, .ref q5, .ref q6, .int 0])), (q4, .inl (tc.1, 300, .inl (fun _ => 0))), (q5, .inl (tc.1, 300, .inl (fun _ => 0))), (q6, .inl (tc.1, 300, .inl (fun _ => 0))), (q7, .inl (tc.1, 900, .inl (fun _ => 0))), (q8, .inl (tc.1, 65, .inl (fun _ => 0))), (q9, .inl (tc.1, 65, .inl (fun _ => 0)))]) rfl ?_
  refine j_aload C d4_init_67 0 rfl ?_
  refine j_aload C d4_init_68 3 rfl ?_
  refine j_putF C hin d4_init_69 fp4_42 0 rfl rfl rfl (Nat.le_of_ble_eq_true rfl) (ws' := [(h_, .inr (4, [.ref a_p1, .ref a_p2, .ref a_p3, .null, .ref q1, .ref q2, .int 0, .ref q3, .ref q7, .int 0, .ref q8, .ref q9, .int 0, .int 0, .int 0])), (q1, .inl (tc.1, 8, .inl (fun _ => 0))), (q2, .inl (tc.1, 300, .inl (fun _ => 0))), (q3, .inr (9, [.ref q4, .ref q5, .ref q6, .int 0])), (q4, .inl (tc.1, 300, .inl (fun _ => 0))), (q5, .inl (tc.1, 300, .inl (fun _ => 0))), (q6, .inl (tc.1, 300, .inl (fun _ => 0))), (q7, .inl (tc.1, 900, .inl (fun _ => 0))), (q8, .inl (tc.1, 65, .inl (fun _ => 0))), (q9, .inl (tc.1, 65, .inl (fun _ => 0)))]) rfl ?_
  refine j_aload C d4_init_72 0 rfl ?_
  refine j_aload C d4_init_73 4 rfl ?_
  refine j_putF C hin d4_init_75 fp4_46 0 rfl rfl rfl (Nat.le_of_ble_eq_true rfl) (ws' := [(h_, .inr (4, [.ref a_p1, .ref a_p2, .ref a_p3, .ref a_p4, .ref q1, .ref q2, .int 0, .ref q3, .ref q7, .int 0, .ref q8, .ref q9, .int 0, .int 0, .int 0])), (q1, .inl (tc.1, 8, .inl (fun _ => 0))), (q2, .inl (tc.1, 300, .inl (fun _ => 0))), (q3, .inr (9, [.ref q4, .ref q5, .ref q6, .int 0])), (q4, .inl (tc.1, 300, .inl (fun _ => 0))), (q5, .inl (tc.1, 300, .inl (fun _ => 0))), (q6, .inl (tc.1, 300, .inl (fun _ => 0))), (q7, .inl (tc.1, 900, .inl (fun _ => 0))), (q8, .inl (tc.1, 65, .inl (fun _ => 0))), (q9, .inl (tc.1, 65, .inl (fun _ => 0)))]) rfl ?_
  exact j_cret C d4_init_78 ⟨_, _, _, _, _, _, _, _, _, rfl⟩

