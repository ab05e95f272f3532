theorem d11_setSynchronizing_0 : jdi cX11_setSynchronizing 0 1 1 := Or.inl ⟨1, by decide +kernel⟩
theorem d11_setSynchronizing_1 : jd cX11_setSynchronizing 1 (.invokestatic 90) 3 4 := by decide +kernel
theorem d11_setSynchronizing_4 : jdb cX11_setSynchronizing 4 (.ifCond .eq 14) 14 18 7 := by decide +kernel
theorem d11_setSynchronizing_7 : jdi cX11_setSynchronizing 7 2 8 := Or.inl ⟨2, by decide +kernel⟩
theorem d11_setSynchronizing_8 : jdb cX11_setSynchronizing 8 (.ifCond .lt 10) 10 18 11 := by decide +kernel
theorem d11_setSynchronizing_11 : jdi cX11_setSynchronizing 11 2 12 := Or.inl ⟨2, by decide +kernel⟩
theorem d11_setSynchronizing_12 : jdk cX11_setSynchronizing 12 511 15 := Or.inr (Or.inr ⟨511, by decide +kernel⟩)
theorem d11_setSynchronizing_15 : jdb cX11_setSynchronizing 15 (.if_icmp .le 5) 5 20 18 := by decide +kernel
theorem d11_setSynchronizing_18 : jdk cX11_setSynchronizing 18 (-1) 19 := Or.inl ⟨(-1), by decide +kernel⟩
theorem d11_setSynchronizing_19 : decode cX11_setSynchronizing 19 = .ok (.ireturn, 1) := by decide +kernel
theorem d11_setSynchronizing_20 : jda cX11_setSynchronizing 20 0 21 := Or.inl ⟨0, by decide +kernel⟩
theorem d11_setSynchronizing_21 : jd cX11_setSynchronizing 21 (.getfield 61) 3 24 := by decide +kernel
theorem d11_setSynchronizing_24 : jd cX11_setSynchronizing 24 (.getfield 243) 3 27 := by decide +kernel
theorem d11_setSynchronizing_27 : jdi cX11_setSynchronizing 27 1 28 := Or.inl ⟨1, by decide +kernel⟩
theorem d11_setSynchronizing_28 : jd cX11_setSynchronizing 28 (.iaload) 1 29 := by decide +kernel
theorem d11_setSynchronizing_29 : jds cX11_setSynchronizing 29 3 30 := Or.inl ⟨3, by decide +kernel⟩
theorem d11_setSynchronizing_30 : jda cX11_setSynchronizing 30 0 31 := Or.inl ⟨0, by decide +kernel⟩
theorem d11_setSynchronizing_31 : jd cX11_setSynchronizing 31 (.getfield 61) 3 34 := by decide +kernel
theorem d11_setSynchronizing_34 : jd cX11_setSynchronizing 34 (.getfield 243) 3 37 := by decide +kernel
theorem d11_setSynchronizing_37 : jdi cX11_setSynchronizing 37 1 38 := Or.inl ⟨1, by decide +kernel⟩
theorem d11_setSynchronizing_38 : jdi cX11_setSynchronizing 38 2 39 := Or.inl ⟨2, by decide +kernel⟩
theorem d11_setSynchronizing_39 : jd cX11_setSynchronizing 39 (.iastore) 1 40 := by decide +kernel
theorem d11_setSynchronizing_40 : jdi cX11_setSynchronizing 40 3 41 := Or.inl ⟨3, by decide +kernel⟩
theorem d11_setSynchronizing_41 : decode cX11_setSynchronizing 41 = .ok (.ireturn, 1) := by decide +kernel
set_option maxHeartbeats 4000000 in
set_option maxRecDepth 100000 in
theorem kX11_setSynchronizing (l : Launch) (D : va_G) (tc : jTC) (h_ h_parser h_parser_synchronizing : Nat) (g_rules g_history g_sets g_setsBefore g_table g_failure g_input g_examples g_repairer g_parser_rules g_parser_sets g_parser_table g_parser_input g_parser_trace g_parser_traceLength g_parser_tree g_parser_errorParts g_parser_errorCount g_parser_stack g_parser_bringers g_parser_depth g_parser_index g_parser_steps : Value) (c_parser_synchronizing : (Nat → Int32)) (p1 : Int32) (p2 : Int32) : ctI l D tc yX11_setSynchronizing (Cond.code yX11_setSynchronizing cX11_setSynchronizing 4 (some .int) :: jtb) ({ frames := 1, cells := 0, slots := 0, locals := 20 } : Room) [.ref h_, .int p1, .int p2] [(h_, .inr (11, [g_rules, g_history, g_sets, g_setsBefore, g_table, g_failure, g_input, .ref h_parser, g_examples, g_repairer])), (h_parser, .inr (4, [g_parser_rules, g_parser_sets, g_parser_table, g_parser_input, .ref h_parser_synchronizing, g_parser_trace, g_parser_traceLength, g_parser_tree, g_parser_errorParts, g_parser_errorCount, g_parser_stack, g_parser_bringers, g_parser_depth, g_parser_index, g_parser_steps])), (h_parser_synchronizing, .inl (tc.1, 8, .inl c_parser_synchronizing))] (fX11_setSynchronizing c_parser_synchronizing p1 p2) (fun (u : (Nat → Int32)) => [(h_, .inr (11, [g_rules, g_history, g_sets, g_setsBefore, g_table, g_failure, g_input, .ref h_parser, g_examples, g_repairer])), (h_parser, .inr (4, [g_parser_rules, g_parser_sets, g_parser_table, g_parser_input, .ref h_parser_synchronizing, g_parser_trace, g_parser_traceLength, g_parser_tree, g_parser_errorParts, g_parser_errorCount, g_parser_stack, g_parser_bringers, g_parser_depth, g_parser_index, g_parser_steps])), (h_parser_synchronizing, .inl (tc.1, 8, .inl u))]) := by
  refine ctI_of (lv0 := [(0, .ref h_), (1, .int p1), (2, .int p2)]) (by decide +kernel) (Nat.le_of_ble_eq_true rfl) rfl (fun X C => ?_)
  unfold fX11_setSynchronizing
  refine j_iload C d11_setSynchronizing_0 1 rfl ?_
  refine j_callSI0 (As := [.int p1]) C d11_setSynchronizing_1 ms11_90 (kX11_isNonterminal _ _ tc p1) ⟨rfl, rfl, Nat.le_of_ble_eq_true rfl, Nat.le_of_ble_eq_true rfl⟩ rfl [] rfl rfl rfl (Nat.le_of_ble_eq_true rfl) (fun x1 => ?_)
  refine j_join 18 (fun v2 => [(h_, .inr (11, [g_rules, g_history, g_sets, g_setsBefore, g_table, g_failure, g_input, .ref h_parser, g_examples, g_repairer])), (h_parser, .inr (4, [g_parser_rules, g_parser_sets, g_parser_table, g_parser_input, .ref h_parser_synchronizing, g_parser_trace, g_parser_traceLength, g_parser_tree, g_parser_errorParts, g_parser_errorCount, g_parser_stack, g_parser_bringers, g_parser_depth, g_parser_index, g_parser_steps])), (h_parser_synchronizing, .inl (tc.1, 8, .inl c_parser_synchronizing))]) (fun v2 => []) (fun v2 => []) (fun v2 => ?_) (fun k3 hk3 => ?_)
  · refine j_const C d11_setSynchronizing_18 ?_
    exact j_iret C d11_setSynchronizing_19 rfl
  · refine j_if_eq C d11_setSynchronizing_4 ?_ ?_
    · exact j_sub [] rfl (hk3 _)
    · refine j_iload C d11_setSynchronizing_7 2 rfl ?_
      refine j_if_lt C d11_setSynchronizing_8 ?_ ?_
      · exact j_sub [] rfl (hk3 _)
      · refine j_iload C d11_setSynchronizing_11 2 rfl ?_
        refine j_const C d11_setSynchronizing_12 ?_
        refine j_icmp_le C d11_setSynchronizing_15 ?_ ?_
        · refine j_aload C d11_setSynchronizing_20 0 rfl ?_
          refine j_get C d11_setSynchronizing_21 fl11_61 0 rfl rfl ?_
          refine j_get C d11_setSynchronizing_24 fl11_243 1 rfl rfl ?_
          refine j_iload C d11_setSynchronizing_27 1 rfl ?_
          refine j_iald C d11_setSynchronizing_28 2 rfl (fun x4 => ?_)
          refine j_istore C d11_setSynchronizing_29 (by decide) (lv' := [(3, .int x4), (0, .ref h_), (1, .int p1), (2, .int p2)]) rfl ?_
          refine j_aload C d11_setSynchronizing_30 1 rfl ?_
          refine j_get C d11_setSynchronizing_31 fl11_61 0 rfl rfl ?_
          refine j_get C d11_setSynchronizing_34 fl11_243 1 rfl rfl ?_
          refine j_iload C d11_setSynchronizing_37 2 rfl ?_
          refine j_iload C d11_setSynchronizing_38 3 rfl ?_
          refine j_iast C (fun f5 => [(h_, .inr (11, [g_rules, g_history, g_sets, g_setsBefore, g_table, g_failure, g_input, .ref h_parser, g_examples, g_repairer])), (h_parser, .inr (4, [g_parser_rules, g_parser_sets, g_parser_table, g_parser_input, .ref h_parser_synchronizing, g_parser_trace, g_parser_traceLength, g_parser_tree, g_parser_errorParts, g_parser_errorCount, g_parser_stack, g_parser_bringers, g_parser_depth, g_parser_index, g_parser_steps])), (h_parser_synchronizing, .inl (tc.1, 8, .inl f5))]) d11_setSynchronizing_39 2 rfl (fun _ => rfl) (fun f5 => ?_)
          refine j_iload C d11_setSynchronizing_40 0 rfl ?_
          exact j_iret C d11_setSynchronizing_41 rfl
        · exact j_sub [] rfl (hk3 _)

theorem d11_appendInput_0 : jdi cX11_appendInput 0 1 1 := Or.inl ⟨1, by decide +kernel⟩
theorem d11_appendInput_1 : jd cX11_appendInput 1 (.invokestatic 246) 3 4 := by decide +kernel
theorem d11_appendInput_4 : jds cX11_appendInput 4 2 5 := Or.inl ⟨2, by decide +kernel⟩
theorem d11_appendInput_5 : jdi cX11_appendInput 5 2 6 := Or.inl ⟨2, by decide +kernel⟩
theorem d11_appendInput_6 : jdb cX11_appendInput 6 (.ifCond .ne 5) 5 11 9 := by decide +kernel
theorem d11_appendInput_9 : jdk cX11_appendInput 9 (-1) 10 := Or.inl ⟨(-1), by decide +kernel⟩
theorem d11_appendInput_10 : decode cX11_appendInput 10 = .ok (.ireturn, 1) := by decide +kernel
theorem d11_appendInput_11 : jda cX11_appendInput 11 0 12 := Or.inl ⟨0, by decide +kernel⟩
theorem d11_appendInput_12 : jd cX11_appendInput 12 (.getfield 52) 3 15 := by decide +kernel
theorem d11_appendInput_15 : jd cX11_appendInput 15 (.getfield 249) 3 18 := by decide +kernel
theorem d11_appendInput_18 : jdi cX11_appendInput 18 2 19 := Or.inl ⟨2, by decide +kernel⟩
theorem d11_appendInput_19 : jd cX11_appendInput 19 (.iadd) 1 20 := by decide +kernel
theorem d11_appendInput_20 : jdk cX11_appendInput 20 40 22 := Or.inr (Or.inl ⟨40, by decide +kernel⟩)
theorem d11_appendInput_22 : jdb cX11_appendInput 22 (.if_icmp .le 6) 6 28 25 := by decide +kernel
theorem d11_appendInput_25 : jdk cX11_appendInput 25 (-3) 27 := Or.inr (Or.inl ⟨(-3), by decide +kernel⟩)
theorem d11_appendInput_27 : decode cX11_appendInput 27 = .ok (.ireturn, 1) := by decide +kernel
theorem d11_appendInput_28 : jda cX11_appendInput 28 0 29 := Or.inl ⟨0, by decide +kernel⟩
theorem d11_appendInput_29 : jd cX11_appendInput 29 (.getfield 52) 3 32 := by decide +kernel
theorem d11_appendInput_32 : jdi cX11_appendInput 32 1 33 := Or.inl ⟨1, by decide +kernel⟩
theorem d11_appendInput_33 : jdi cX11_appendInput 33 2 34 := Or.inl ⟨2, by decide +kernel⟩
theorem d11_appendInput_34 : jd cX11_appendInput 34 (.invokevirtual 252) 3 37 := by decide +kernel
theorem d11_appendInput_37 : jda cX11_appendInput 37 0 38 := Or.inl ⟨0, by decide +kernel⟩
theorem d11_appendInput_38 : jd cX11_appendInput 38 (.getfield 52) 3 41 := by decide +kernel
theorem d11_appendInput_41 : jd cX11_appendInput 41 (.getfield 249) 3 44 := by decide +kernel
theorem d11_appendInput_44 : decode cX11_appendInput 44 = .ok (.ireturn, 1) := by decide +kernel
set_option maxHeartbeats 4000000 in
set_option maxRecDepth 100000 in
theorem kX11_appendInput (l : Launch) (D : va_G) (tc : jTC) (N : Nat) (h_ h_input h_input_terminals : Nat) (g_rules g_history g_sets g_setsBefore g_table g_failure g_parser g_examples g_repairer : Value) (c_input_terminals : (Nat → Int32)) (c_input_length : Int32) (p1 : Int32) : ctI l D tc yX11_appendInput (Cond.code yX11_appendInput cX11_appendInput 3 (some .int) :: jtb) ({ frames := 1, cells := 0, slots := 0, locals := 24 } : Room) [.ref h_, .int p1] [(h_, .inr (11, [g_rules, g_history, g_sets, g_setsBefore, g_table, g_failure, .ref h_input, g_parser, g_examples, g_repairer])), (h_input, .inr (3, [.ref h_input_terminals, .int c_input_length])), (h_input_terminals, .inl (tc.1, 40, .inl c_input_terminals))] (fX11_appendInput N c_input_terminals c_input_length p1) (fun (u : (Nat → Int32) × Int32) => [(h_, .inr (11, [g_rules, g_history, g_sets, g_setsBefore, g_table, g_failure, .ref h_input, g_parser, g_examples, g_repairer])), (h_input, .inr (3, [.ref h_input_terminals, .int u.2])), (h_input_terminals, .inl (tc.1, 40, .inl u.1))]) := by
  refine ctI_of (lv0 := [(0, .ref h_), (1, .int p1)]) (by decide +kernel) (Nat.le_of_ble_eq_true rfl) rfl (fun X C => ?_)
  unfold fX11_appendInput
  refine j_iload C d11_appendInput_0 1 rfl ?_
  refine j_callSI0 (As := [.int p1]) C d11_appendInput_1 ms11_246 (kX3_terminalsIn _ _ tc N p1) ⟨rfl, rfl, Nat.le_of_ble_eq_true rfl, Nat.le_of_ble_eq_true rfl⟩ rfl [] rfl rfl rfl (Nat.le_of_ble_eq_true rfl) (fun x1 => ?_)
  refine j_istore C d11_appendInput_4 (by decide) (lv' := [(2, .int x1), (0, .ref h_), (1, .int p1)]) rfl ?_
  refine j_iload C d11_appendInput_5 0 rfl ?_
  refine j_if_ne C d11_appendInput_6 ?_ ?_
  · refine j_aload C d11_appendInput_11 1 rfl ?_
    refine j_get C d11_appendInput_12 fl11_52 0 rfl rfl ?_
    refine j_get C d11_appendInput_15 fl11_249 1 rfl rfl ?_
    refine j_iload C d11_appendInput_18 0 rfl ?_
    refine j_iadd C d11_appendInput_19 ?_
    refine j_const C d11_appendInput_20 ?_
    refine j_icmp_le C d11_appendInput_22 ?_ ?_
    · refine j_aload C d11_appendInput_28 1 rfl ?_
      refine j_get C d11_appendInput_29 fl11_52 0 rfl rfl ?_
      refine j_iload C d11_appendInput_32 2 rfl ?_
      refine j_iload C d11_appendInput_33 0 rfl ?_
      refine j_callVV2 (As := [.int p1, .int x1]) C d11_appendInput_34 mv11_252 (kX3_append _ _ tc N h_input h_input_terminals c_input_terminals c_input_length p1 x1) ⟨rfl, rfl, Nat.le_of_ble_eq_true rfl, Nat.le_of_ble_eq_true rfl⟩ rfl 1 rfl [1, 2] rfl rfl rfl (Nat.le_of_ble_eq_true rfl) (fun o2 o3 => [(h_, .inr (11, [g_rules, g_history, g_sets, g_setsBefore, g_table, g_failure, .ref h_input, g_parser, g_examples, g_repairer])), (h_input, .inr (3, [.ref h_input_terminals, .int o3])), (h_input_terminals, .inl (tc.1, 40, .inl o2))]) [(false, 0), (true, 0), (true, 1)] (fun _ => rfl) (by decide +kernel) (fun o2 o3 => ?_)
      refine j_aload C d11_appendInput_37 1 rfl ?_
      refine j_get C d11_appendInput_38 fl11_52 0 rfl rfl ?_
      refine j_get C d11_appendInput_41 fl11_249 1 rfl rfl ?_
      exact j_iret C d11_appendInput_44 rfl
    · refine j_const C d11_appendInput_25 ?_
      exact j_iret C d11_appendInput_27 rfl
  · refine j_const C d11_appendInput_9 ?_
    exact j_iret C d11_appendInput_10 rfl

theorem d11_clearInput_0 : jda cX11_clearInput 0 0 1 := Or.inl ⟨0, by decide +kernel⟩
theorem d11_clearInput_1 : jd cX11_clearInput 1 (.getfield 52) 3 4 := by decide +kernel
theorem d11_clearInput_4 : jd cX11_clearInput 4 (.getfield 249) 3 7 := by decide +kernel
theorem d11_clearInput_7 : jds cX11_clearInput 7 1 8 := Or.inl ⟨1, by decide +kernel⟩
theorem d11_clearInput_8 : jda cX11_clearInput 8 0 9 := Or.inl ⟨0, by decide +kernel⟩
theorem d11_clearInput_9 : jd cX11_clearInput 9 (.getfield 52) 3 12 := by decide +kernel
theorem d11_clearInput_12 : jdk cX11_clearInput 12 0 13 := Or.inl ⟨0, by decide +kernel⟩
theorem d11_clearInput_13 : jd cX11_clearInput 13 (.putfield 249) 3 16 := by decide +kernel
theorem d11_clearInput_16 : jdi cX11_clearInput 16 1 17 := Or.inl ⟨1, by decide +kernel⟩
theorem d11_clearInput_17 : decode cX11_clearInput 17 = .ok (.ireturn, 1) := by decide +kernel
set_option maxHeartbeats 4000000 in
set_option maxRecDepth 100000 in
theorem kX11_clearInput (l : Launch) (D : va_G) (tc : jTC) (h_ h_input : Nat) (g_rules g_history g_sets g_setsBefore g_table g_failure g_parser g_examples g_repairer g_input_terminals : Value) (c_input_length : Int32) : ctI l D tc yX11_clearInput (Cond.code yX11_clearInput cX11_clearInput 2 (some .int) :: jtb) ({ frames := 0, cells := 0, slots := 0, locals := 0 } : Room) [.ref h_] [(h_, .inr (11, [g_rules, g_history, g_sets, g_setsBefore, g_table, g_failure, .ref h_input, g_parser, g_examples, g_repairer])), (h_input, .inr (3, [g_input_terminals, .int c_input_length]))] (fX11_clearInput c_input_length) (fun (u : Int32) => [(h_, .inr (11, [g_rules, g_history, g_sets, g_setsBefore, g_table, g_failure, .ref h_input, g_parser, g_examples, g_repairer])), (h_input, .inr (3, [g_input_terminals, .int u]))]) := by
  refine ctI_of (lv0 := [(0, .ref h_)]) (by decide +kernel) (Nat.le_of_ble_eq_true rfl) rfl (fun X C => ?_)
  unfold fX11_clearInput
  refine j_aload C d11_clearInput_0 0 rfl ?_
  refine j_get C d11_clearInput_1 fl11_52 0 rfl rfl ?_
  refine j_get C d11_clearInput_4 fl11_249 1 rfl rfl ?_
  refine j_istore C d11_clearInput_7 (by decide) (lv' := [(1, .int c_input_length), (0, .ref h_)]) rfl ?_
  refine j_aload C d11_clearInput_8 1 rfl ?_
  refine j_get C d11_clearInput_9 fl11_52 0 rfl rfl ?_
  refine j_const C d11_clearInput_12 ?_
  refine j_putq C d11_clearInput_13 fq11_249 1 rfl rfl rfl (Nat.le_of_ble_eq_true rfl) (ws' := [(h_, .inr (11, [g_rules, g_history, g_sets, g_setsBefore, g_table, g_failure, .ref h_input, g_parser, g_examples, g_repairer])), (h_input, .inr (3, [g_input_terminals, .int 0]))]) rfl ?_
  refine j_iload C d11_clearInput_16 0 rfl ?_
  exact j_iret C d11_clearInput_17 rfl

theorem d11_inputTerminal_0 : jdi cX11_inputTerminal 0 1 1 := Or.inl ⟨1, by decide +kernel⟩
theorem d11_inputTerminal_1 : jdb cX11_inputTerminal 1 (.ifCond .lt 26) 26 27 4 := by decide +kernel
theorem d11_inputTerminal_4 : jdi cX11_inputTerminal 4 1 5 := Or.inl ⟨1, by decide +kernel⟩
theorem d11_inputTerminal_5 : jda cX11_inputTerminal 5 0 6 := Or.inl ⟨0, by decide +kernel⟩
theorem d11_inputTerminal_6 : jd cX11_inputTerminal 6 (.getfield 52) 3 9 := by decide +kernel
theorem d11_inputTerminal_9 : jd cX11_inputTerminal 9 (.getfield 249) 3 12 := by decide +kernel
theorem d11_inputTerminal_12 : jdb cX11_inputTerminal 12 (.if_icmp .ge 15) 15 27 15 := by decide +kernel
theorem d11_inputTerminal_15 : jda cX11_inputTerminal 15 0 16 := Or.inl ⟨0, by decide +kernel⟩
theorem d11_inputTerminal_16 : jd cX11_inputTerminal 16 (.getfield 52) 3 19 := by decide +kernel
theorem d11_inputTerminal_19 : jd cX11_inputTerminal 19 (.getfield 255) 3 22 := by decide +kernel
theorem d11_inputTerminal_22 : jdi cX11_inputTerminal 22 1 23 := Or.inl ⟨1, by decide +kernel⟩
theorem d11_inputTerminal_23 : jd cX11_inputTerminal 23 (.iaload) 1 24 := by decide +kernel
theorem d11_inputTerminal_24 : jdb cX11_inputTerminal 24 (.goto 5) 5 29 27 := by decide +kernel
theorem d11_inputTerminal_27 : jdk cX11_inputTerminal 27 (-2) 29 := Or.inr (Or.inl ⟨(-2), by decide +kernel⟩)
theorem d11_inputTerminal_29 : decode cX11_inputTerminal 29 = .ok (.ireturn, 1) := by decide +kernel
set_option maxHeartbeats 4000000 in
set_option maxRecDepth 100000 in
theorem kX11_inputTerminal (l : Launch) (D : va_G) (tc : jTC) (h_ h_input h_input_terminals : Nat) (g_rules g_history g_sets g_setsBefore g_table g_failure g_parser g_examples g_repairer : Value) (c_input_terminals : (Nat → Int32)) (c_input_length : Int32) (p1 : Int32) : ctI0 l D tc yX11_inputTerminal (Cond.code yX11_inputTerminal cX11_inputTerminal 2 (some .int) :: jtb) ({ frames := 0, cells := 0, slots := 0, locals := 0 } : Room) [.ref h_, .int p1] [(h_, .inr (11, [g_rules, g_history, g_sets, g_setsBefore, g_table, g_failure, .ref h_input, g_parser, g_examples, g_repairer])), (h_input, .inr (3, [.ref h_input_terminals, .int c_input_length])), (h_input_terminals, .inl (tc.1, 40, .inl c_input_terminals))] (fX11_inputTerminal c_input_terminals c_input_length p1) := by
  refine ctI0_of (lv0 := [(0, .ref h_), (1, .int p1)]) (by decide +kernel) (Nat.le_of_ble_eq_true rfl) rfl (fun X C => ?_)
  unfold fX11_inputTerminal
  refine j_iload C d11_inputTerminal_0 1 rfl ?_
  refine j_join 29 (fun v1 => [(h_, .inr (11, [g_rules, g_history, g_sets, g_setsBefore, g_table, g_failure, .ref h_input, g_parser, g_examples, g_repairer])), (h_input, .inr (3, [.ref h_input_terminals, .int c_input_length])), (h_input_terminals, .inl (tc.1, 40, .inl c_input_terminals))]) (fun v1 => []) (fun v1 => [.int v1]) (fun v1 => ?_) (fun k2 hk2 => ?_)
  · exact j_iret0 C d11_inputTerminal_29
  · refine j_join 27 (fun v3 => [(h_, .inr (11, [g_rules, g_history, g_sets, g_setsBefore, g_table, g_failure, .ref h_input, g_parser, g_examples, g_repairer])), (h_input, .inr (3, [.ref h_input_terminals, .int c_input_length])), (h_input_terminals, .inl (tc.1, 40, .inl c_input_terminals))]) (fun v3 => []) (fun v3 => []) (fun v3 => ?_) (fun k4 hk4 => ?_)
    · refine j_const C d11_inputTerminal_27 ?_
      exact hk2 _
    · refine j_if_lt C d11_inputTerminal_1 ?_ ?_
      · exact j_sub [] rfl (hk4 _)
      · refine j_iload C d11_inputTerminal_4 1 rfl ?_
        refine j_aload C d11_inputTerminal_5 0 rfl ?_
        refine j_get C d11_inputTerminal_6 fl11_52 0 rfl rfl ?_
        refine j_get C d11_inputTerminal_9 fl11_249 1 rfl rfl ?_
        refine j_icmp_ge C d11_inputTerminal_12 ?_ ?_
        · exact j_sub [] rfl (hk4 _)
        · refine j_aload C d11_inputTerminal_15 0 rfl ?_
          refine j_get C d11_inputTerminal_16 fl11_52 0 rfl rfl ?_
          refine j_get C d11_inputTerminal_19 fl11_255 1 rfl rfl ?_
          refine j_iload C d11_inputTerminal_22 1 rfl ?_
          refine j_iald C d11_inputTerminal_23 2 rfl (fun x5 => ?_)
          refine j_goto C d11_inputTerminal_24 ?_
          exact j_sub [] rfl (hk2 _)

theorem d11_parse_0 : jda cX11_parse 0 0 1 := Or.inl ⟨0, by decide +kernel⟩
theorem d11_parse_1 : jd cX11_parse 1 (.getfield 61) 3 4 := by decide +kernel
theorem d11_parse_4 : jd cX11_parse 4 (.invokevirtual 258) 3 7 := by decide +kernel
theorem d11_parse_7 : jds cX11_parse 7 1 8 := Or.inl ⟨1, by decide +kernel⟩
theorem d11_parse_8 : jdi cX11_parse 8 1 9 := Or.inl ⟨1, by decide +kernel⟩
theorem d11_parse_9 : jdb cX11_parse 9 (.ifCond .ge 15) 15 24 12 := by decide +kernel
theorem d11_parse_12 : jda cX11_parse 12 0 13 := Or.inl ⟨0, by decide +kernel⟩
theorem d11_parse_13 : jd cX11_parse 13 (.getfield 61) 3 16 := by decide +kernel
theorem d11_parse_16 : jda cX11_parse 16 0 17 := Or.inl ⟨0, by decide +kernel⟩
theorem d11_parse_17 : jd cX11_parse 17 (.getfield 45) 3 20 := by decide +kernel
theorem d11_parse_20 : jdi cX11_parse 20 1 21 := Or.inl ⟨1, by decide +kernel⟩
theorem d11_parse_21 : jd cX11_parse 21 (.invokevirtual 262) 3 24 := by decide +kernel
theorem d11_parse_24 : jdi cX11_parse 24 1 25 := Or.inl ⟨1, by decide +kernel⟩
theorem d11_parse_25 : decode cX11_parse 25 = .ok (.ireturn, 1) := by decide +kernel
set_option maxHeartbeats 4000000 in
set_option maxRecDepth 100000 in
theorem kX11_parse (l : Launch) (D : va_G) (tc : jTC) (N : Nat) (h_ h_rules h_rules_codes h_table h_table_possible h_table_lowest h_failure h_failure_codes h_failure_details h_input h_input_terminals h_parser h_parser_trace h_parser_tree h_parser_tree_symbols h_parser_tree_parents h_parser_tree_heights h_parser_stack h_parser_bringers : Nat) (g_history g_sets g_setsBefore g_examples g_repairer g_table_sets g_table_select g_table_conflicts g_parser_sets g_parser_synchronizing g_parser_errorParts g_parser_errorCount : Value) (c_rules_codes : (Nat → Int32)) (c_rules_count : Int32) (c_table_possible : (Nat → Int32)) (c_table_lowest : (Nat → Int32)) (c_failure_codes : (Nat → Int32)) (c_failure_details : (Nat → Int32)) (c_failure_levels : Int32) (c_input_terminals : (Nat → Int32)) (c_input_length : Int32) (c_parser_trace : (Nat → Int32)) (c_parser_traceLength : Int32) (c_parser_tree_symbols : (Nat → Int32)) (c_parser_tree_parents : (Nat → Int32)) (c_parser_tree_heights : (Nat → Int32)) (c_parser_tree_count : Int32) (c_parser_stack : (Nat → Int32)) (c_parser_bringers : (Nat → Int32)) (c_parser_depth : Int32) (c_parser_index : Int32) (c_parser_steps : Int32) : ctI l D tc yX11_parse (Cond.code yX11_parse cX11_parse 2 (some .int) :: jtb) ({ frames := 5, cells := 0, slots := 0, locals := 108 } : Room) [.ref h_] [(h_, .inr (11, [.ref h_rules, g_history, g_sets, g_setsBefore, .ref h_table, .ref h_failure, .ref h_input, .ref h_parser, g_examples, g_repairer])), (h_rules, .inr (6, [.ref h_rules_codes, .int c_rules_count])), (h_rules_codes, .inl (tc.1, 24, .inl c_rules_codes)), (h_table, .inr (8, [.ref h_rules, g_table_sets, g_table_select, .ref h_table_possible, .ref h_table_lowest, g_table_conflicts])), (h_table_possible, .inl (tc.1, 72, .inl c_table_possible)), (h_table_lowest, .inl (tc.1, 72, .inl c_table_lowest)), (h_failure, .inr (1, [.ref h_failure_codes, .ref h_failure_details, .int c_failure_levels])), (h_failure_codes, .inl (tc.1, 3, .inl c_failure_codes)), (h_failure_details, .inl (tc.1, 3, .inl c_failure_details)), (h_input, .inr (3, [.ref h_input_terminals, .int c_input_length])), (h_input_terminals, .inl (tc.1, 40, .inl c_input_terminals)), (h_parser, .inr (4, [.ref h_rules, g_parser_sets, .ref h_table, .ref h_input, g_parser_synchronizing, .ref h_parser_trace, .int c_parser_traceLength, .ref h_parser_tree, g_parser_errorParts, g_parser_errorCount, .ref h_parser_stack, .ref h_parser_bringers, .int c_parser_depth, .int c_parser_index, .int c_parser_steps])), (h_parser_trace, .inl (tc.1, 300, .inl c_parser_trace)), (h_parser_tree, .inr (9, [.ref h_parser_tree_symbols, .ref h_parser_tree_parents, .ref h_parser_tree_heights, .int c_parser_tree_count])), (h_parser_tree_symbols, .inl (tc.1, 300, .inl c_parser_tree_symbols)), (h_parser_tree_parents, .inl (tc.1, 300, .inl c_parser_tree_parents)), (h_parser_tree_heights, .inl (tc.1, 300, .inl c_parser_tree_heights)), (h_parser_stack, .inl (tc.1, 65, .inl c_parser_stack)), (h_parser_bringers, .inl (tc.1, 65, .inl c_parser_bringers))] (fX11_parse N c_rules_codes c_rules_count c_table_possible c_table_lowest c_failure_codes c_failure_details c_failure_levels c_input_terminals c_input_length c_parser_trace c_parser_traceLength c_parser_tree_symbols c_parser_tree_parents c_parser_tree_heights c_parser_tree_count c_parser_stack c_parser_bringers c_parser_depth c_parser_index c_parser_steps) (fun (u : (Nat → Int32) × (Nat → Int32) × Int32 × (Nat → Int32) × Int32 × (Nat → Int32) × (Nat → Int32) × (Nat → Int32) × Int32 × (Nat → Int32) × (Nat → Int32) × Int32 × Int32 × Int32) => [(h_, .inr (11, [.ref h_rules, g_history, g_sets, g_setsBefore, .ref h_table, .ref h_failure, .ref h_input, .ref h_parser, g_examples, g_repairer])), (h_rules, .inr (6, [.ref h_rules_codes, .int c_rules_count])), (h_rules_codes, .inl (tc.1, 24, .inl c_rules_codes)), (h_table, .inr (8, [.ref h_rules, g_table_sets, g_table_select, .ref h_table_possible, .ref h_table_lowest, g_table_conflicts])), (h_table_possible, .inl (tc.1, 72, .inl c_table_possible)), (h_table_lowest, .inl (tc.1, 72, .inl c_table_lowest)), (h_failure, .inr (1, [.ref h_failure_codes, .ref h_failure_details, .int u.2.2.1])), (h_failure_codes, .inl (tc.1, 3, .inl u.1)), (h_failure_details, .inl (tc.1, 3, .inl u.2.1)), (h_input, .inr (3, [.ref h_input_terminals, .int c_input_length])), (h_input_terminals, .inl (tc.1, 40, .inl c_input_terminals)), (h_parser, .inr (4, [.ref h_rules, g_parser_sets, .ref h_table, .ref h_input, g_parser_synchronizing, .ref h_parser_trace, .int u.2.2.2.2.1, .ref h_parser_tree, g_parser_errorParts, g_parser_errorCount, .ref h_parser_stack, .ref h_parser_bringers, .int u.2.2.2.2.2.2.2.2.2.2.2.1, .int u.2.2.2.2.2.2.2.2.2.2.2.2.1, .int u.2.2.2.2.2.2.2.2.2.2.2.2.2])), (h_parser_trace, .inl (tc.1, 300, .inl u.2.2.2.1)), (h_parser_tree, .inr (9, [.ref h_parser_tree_symbols, .ref h_parser_tree_parents, .ref h_parser_tree_heights, .int u.2.2.2.2.2.2.2.2.1])), (h_parser_tree_symbols, .inl (tc.1, 300, .inl u.2.2.2.2.2.1)), (h_parser_tree_parents, .inl (tc.1, 300, .inl u.2.2.2.2.2.2.1)), (h_parser_tree_heights, .inl (tc.1, 300, .inl u.2.2.2.2.2.2.2.1)), (h_parser_stack, .inl (tc.1, 65, .inl u.2.2.2.2.2.2.2.2.2.1)), (h_parser_bringers, .inl (tc.1, 65, .inl u.2.2.2.2.2.2.2.2.2.2.1))]) := by
  refine ctI_of (lv0 := [(0, .ref h_)]) (by decide +kernel) (Nat.le_of_ble_eq_true rfl) rfl (fun X C => ?_)
  unfold fX11_parse
  refine j_aload C d11_parse_0 0 rfl ?_
  refine j_get C d11_parse_1 fl11_61 0 rfl rfl ?_
  refine j_callVI12 (As := []) C d11_parse_4 mv11_258 (kX4_parseInput _ _ tc N h_parser h_rules h_rules_codes h_table h_table_possible h_table_lowest h_input h_input_terminals h_parser_trace h_parser_tree h_parser_tree_symbols h_parser_tree_parents h_parser_tree_heights h_parser_stack h_parser_bringers g_parser_sets g_parser_synchronizing g_parser_errorParts g_parser_errorCount g_table_sets g_table_select g_table_conflicts c_rules_codes c_rules_count c_table_possible c_table_lowest c_input_terminals c_input_length c_parser_trace c_parser_traceLength c_parser_tree_symbols c_parser_tree_parents c_parser_tree_heights c_parser_tree_count c_parser_stack c_parser_bringers c_parser_depth c_parser_index c_parser_steps) ⟨rfl, rfl, Nat.le_of_ble_eq_true rfl, Nat.le_of_ble_eq_true rfl⟩ rfl 11 rfl [11, 1, 2, 3, 4, 5, 9, 10, 12, 13, 14, 15, 16, 17, 18] rfl rfl rfl (Nat.le_of_ble_eq_true rfl) (fun o1 o2 o3 o4 o5 o6 o7 o8 o9 o10 o11 => [(h_, .inr (11, [.ref h_rules, g_history, g_sets, g_setsBefore, .ref h_table, .ref h_failure, .ref h_input, .ref h_parser, g_examples, g_repairer])), (h_rules, .inr (6, [.ref h_rules_codes, .int c_rules_count])), (h_rules_codes, .inl (tc.1, 24, .inl c_rules_codes)), (h_table, .inr (8, [.ref h_rules, g_table_sets, g_table_select, .ref h_table_possible, .ref h_table_lowest, g_table_conflicts])), (h_table_possible, .inl (tc.1, 72, .inl c_table_possible)), (h_table_lowest, .inl (tc.1, 72, .inl c_table_lowest)), (h_failure, .inr (1, [.ref h_failure_codes, .ref h_failure_details, .int c_failure_levels])), (h_failure_codes, .inl (tc.1, 3, .inl c_failure_codes)), (h_failure_details, .inl (tc.1, 3, .inl c_failure_details)), (h_input, .inr (3, [.ref h_input_terminals, .int c_input_length])), (h_input_terminals, .inl (tc.1, 40, .inl c_input_terminals)), (h_parser, .inr (4, [.ref h_rules, g_parser_sets, .ref h_table, .ref h_input, g_parser_synchronizing, .ref h_parser_trace, .int o2, .ref h_parser_tree, g_parser_errorParts, g_parser_errorCount, .ref h_parser_stack, .ref h_parser_bringers, .int o9, .int o10, .int o11])), (h_parser_trace, .inl (tc.1, 300, .inl o1)), (h_parser_tree, .inr (9, [.ref h_parser_tree_symbols, .ref h_parser_tree_parents, .ref h_parser_tree_heights, .int o6])), (h_parser_tree_symbols, .inl (tc.1, 300, .inl o3)), (h_parser_tree_parents, .inl (tc.1, 300, .inl o4)), (h_parser_tree_heights, .inl (tc.1, 300, .inl o5)), (h_parser_stack, .inl (tc.1, 65, .inl o7)), (h_parser_bringers, .inl (tc.1, 65, .inl o8))]) [(false, 0), (true, 1), (true, 2), (true, 3), (true, 4), (true, 5), (false, 6), (false, 7), (false, 8), (true, 6), (true, 7), (true, 0), (true, 8), (true, 9), (true, 10), (true, 11), (true, 12), (true, 13), (true, 14)] (fun _ => rfl) (by decide +kernel) (fun o12 o1 o2 o3 o4 o5 o6 o7 o8 o9 o10 o11 => ?_)
  refine j_istore C d11_parse_7 (by decide) (lv' := [(1, .int o12), (0, .ref h_)]) rfl ?_
  refine j_iload C d11_parse_8 0 rfl ?_
  refine j_join3 24 (fun v13 v14 v15 => [(h_, .inr (11, [.ref h_rules, g_history, g_sets, g_setsBefore, .ref h_table, .ref h_failure, .ref h_input, .ref h_parser, g_examples, g_repairer])), (h_rules, .inr (6, [.ref h_rules_codes, .int c_rules_count])), (h_rules_codes, .inl (tc.1, 24, .inl c_rules_codes)), (h_table, .inr (8, [.ref h_rules, g_table_sets, g_table_select, .ref h_table_possible, .ref h_table_lowest, g_table_conflicts])), (h_table_possible, .inl (tc.1, 72, .inl c_table_possible)), (h_table_lowest, .inl (tc.1, 72, .inl c_table_lowest)), (h_failure, .inr (1, [.ref h_failure_codes, .ref h_failure_details, .int v15])), (h_failure_codes, .inl (tc.1, 3, .inl v13)), (h_failure_details, .inl (tc.1, 3, .inl v14)), (h_input, .inr (3, [.ref h_input_terminals, .int c_input_length])), (h_input_terminals, .inl (tc.1, 40, .inl c_input_terminals)), (h_parser, .inr (4, [.ref h_rules, g_parser_sets, .ref h_table, .ref h_input, g_parser_synchronizing, .ref h_parser_trace, .int o2, .ref h_parser_tree, g_parser_errorParts, g_parser_errorCount, .ref h_parser_stack, .ref h_parser_bringers, .int o9, .int o10, .int o11])), (h_parser_trace, .inl (tc.1, 300, .inl o1)), (h_parser_tree, .inr (9, [.ref h_parser_tree_symbols, .ref h_parser_tree_parents, .ref h_parser_tree_heights, .int o6])), (h_parser_tree_symbols, .inl (tc.1, 300, .inl o3)), (h_parser_tree_parents, .inl (tc.1, 300, .inl o4)), (h_parser_tree_heights, .inl (tc.1, 300, .inl o5)), (h_parser_stack, .inl (tc.1, 65, .inl o7)), (h_parser_bringers, .inl (tc.1, 65, .inl o8))]) (fun v13 v14 v15 => [(1, .int o12)]) (fun v13 v14 v15 => []) (fun v13 v14 v15 => ?_) (fun k16 hk16 => ?_)
  · refine j_iload C d11_parse_24 0 rfl ?_
    exact j_iret C d11_parse_25 rfl
  · refine j_if_ge C d11_parse_9 ?_ ?_
    · exact j_sub [0] rfl (hk16 _ _ _)
    · refine j_aload C d11_parse_12 1 rfl ?_
      refine j_get C d11_parse_13 fl11_61 0 rfl rfl ?_
      refine j_aload C d11_parse_16 1 rfl ?_
      refine j_get C d11_parse_17 fl11_45 0 rfl rfl ?_
      refine j_iload C d11_parse_20 0 rfl ?_
      refine j_callVV3 (As := [.ref h_failure, .int o12]) C d11_parse_21 mv11_262 (kX4_explain _ _ tc N h_parser h_rules h_rules_codes h_table h_table_possible h_input h_parser_stack h_failure h_failure_codes h_failure_details g_parser_sets g_parser_synchronizing (.ref h_parser_trace) (.int o2) (.ref h_parser_tree) g_parser_errorParts g_parser_errorCount (.ref h_parser_bringers) g_table_sets g_table_select (.ref h_table_lowest) g_table_conflicts (.ref h_input_terminals) c_rules_codes c_rules_count c_table_possible c_input_length o7 o9 o10 o11 c_failure_codes c_failure_details c_failure_levels o12) ⟨rfl, rfl, Nat.le_of_ble_eq_true rfl, Nat.le_of_ble_eq_true rfl⟩ rfl 11 rfl [11, 1, 2, 3, 4, 9, 17, 6, 7, 8] rfl rfl rfl (Nat.le_of_ble_eq_true rfl) (fun o17 o18 o19 => [(h_, .inr (11, [.ref h_rules, g_history, g_sets, g_setsBefore, .ref h_table, .ref h_failure, .ref h_input, .ref h_parser, g_examples, g_repairer])), (h_rules, .inr (6, [.ref h_rules_codes, .int c_rules_count])), (h_rules_codes, .inl (tc.1, 24, .inl c_rules_codes)), (h_table, .inr (8, [.ref h_rules, g_table_sets, g_table_select, .ref h_table_possible, .ref h_table_lowest, g_table_conflicts])), (h_table_possible, .inl (tc.1, 72, .inl c_table_possible)), (h_table_lowest, .inl (tc.1, 72, .inl c_table_lowest)), (h_failure, .inr (1, [.ref h_failure_codes, .ref h_failure_details, .int o19])), (h_failure_codes, .inl (tc.1, 3, .inl o17)), (h_failure_details, .inl (tc.1, 3, .inl o18)), (h_input, .inr (3, [.ref h_input_terminals, .int c_input_length])), (h_input_terminals, .inl (tc.1, 40, .inl c_input_terminals)), (h_parser, .inr (4, [.ref h_rules, g_parser_sets, .ref h_table, .ref h_input, g_parser_synchronizing, .ref h_parser_trace, .int o2, .ref h_parser_tree, g_parser_errorParts, g_parser_errorCount, .ref h_parser_stack, .ref h_parser_bringers, .int o9, .int o10, .int o11])), (h_parser_trace, .inl (tc.1, 300, .inl o1)), (h_parser_tree, .inr (9, [.ref h_parser_tree_symbols, .ref h_parser_tree_parents, .ref h_parser_tree_heights, .int o6])), (h_parser_tree_symbols, .inl (tc.1, 300, .inl o3)), (h_parser_tree_parents, .inl (tc.1, 300, .inl o4)), (h_parser_tree_heights, .inl (tc.1, 300, .inl o5)), (h_parser_stack, .inl (tc.1, 65, .inl o7)), (h_parser_bringers, .inl (tc.1, 65, .inl o8))]) [(false, 0), (true, 1), (true, 2), (true, 3), (true, 4), (false, 5), (true, 7), (true, 8), (true, 9), (true, 5), (false, 10), (true, 0), (false, 12), (false, 13), (false, 14), (false, 15), (false, 16), (true, 6), (false, 18)] (fun _ => rfl) (by decide +kernel) (fun o17 o18 o19 => ?_)
      exact j_sub [0] rfl (hk16 _ _ _)

theorem d11_recover_0 : jda cX11_recover 0 0 1 := Or.inl ⟨0, by decide +kernel⟩
theorem d11_recover_1 : jd cX11_recover 1 (.getfield 61) 3 4 := by decide +kernel
theorem d11_recover_4 : jd cX11_recover 4 (.invokevirtual 266) 3 7 := by decide +kernel
theorem d11_recover_7 : decode cX11_recover 7 = .ok (.ireturn, 1) := by decide +kernel
set_option maxHeartbeats 4000000 in
set_option maxRecDepth 100000 in
theorem kX11_recover (l : Launch) (D : va_G) (tc : jTC) (N : Nat) (h_ h_rules h_rules_codes h_sets h_sets_follow h_table h_table_possible h_table_lowest h_input h_input_terminals h_parser h_parser_synchronizing h_parser_trace h_parser_tree h_parser_errorParts h_parser_stack h_parser_bringers : Nat) (g_history g_setsBefore g_failure g_examples g_repairer g_sets_nullable g_sets_first g_sets_begins g_table_select g_table_conflicts g_parser_tree_symbols g_parser_tree_parents g_parser_tree_heights : Value) (c_rules_codes : (Nat → Int32)) (c_rules_count : Int32) (c_sets_follow : (Nat → Int32)) (c_table_possible : (Nat → Int32)) (c_table_lowest : (Nat → Int32)) (c_input_terminals : (Nat → Int32)) (c_input_length : Int32) (c_parser_synchronizing : (Nat → Int32)) (c_parser_trace : (Nat → Int32)) (c_parser_traceLength : Int32) (c_parser_tree_count : Int32) (c_parser_errorParts : (Nat → Int32)) (c_parser_errorCount : Int32) (c_parser_stack : (Nat → Int32)) (c_parser_bringers : (Nat → Int32)) (c_parser_depth : Int32) (c_parser_index : Int32) (c_parser_steps : Int32) : ctI l D tc yX11_recover (Cond.code yX11_recover cX11_recover 1 (some .int) :: jtb) ({ frames := 5, cells := 0, slots := 0, locals := 105 } : Room) [.ref h_] [(h_, .inr (11, [.ref h_rules, g_history, .ref h_sets, g_setsBefore, .ref h_table, g_failure, .ref h_input, .ref h_parser, g_examples, g_repairer])), (h_rules, .inr (6, [.ref h_rules_codes, .int c_rules_count])), (h_rules_codes, .inl (tc.1, 24, .inl c_rules_codes)), (h_sets, .inr (7, [g_sets_nullable, g_sets_first, .ref h_sets_follow, g_sets_begins])), (h_sets_follow, .inl (tc.1, 8, .inl c_sets_follow)), (h_table, .inr (8, [.ref h_rules, .ref h_sets, g_table_select, .ref h_table_possible, .ref h_table_lowest, g_table_conflicts])), (h_table_possible, .inl (tc.1, 72, .inl c_table_possible)), (h_table_lowest, .inl (tc.1, 72, .inl c_table_lowest)), (h_input, .inr (3, [.ref h_input_terminals, .int c_input_length])), (h_input_terminals, .inl (tc.1, 40, .inl c_input_terminals)), (h_parser, .inr (4, [.ref h_rules, .ref h_sets, .ref h_table, .ref h_input, .ref h_parser_synchronizing, .ref h_parser_trace, .int c_parser_traceLength, .ref h_parser_tree, .ref h_parser_errorParts, .int c_parser_errorCount, .ref h_parser_stack, .ref h_parser_bringers, .int c_parser_depth, .int c_parser_index, .int c_parser_steps])), (h_parser_synchronizing, .inl (tc.1, 8, .inl c_parser_synchronizing)), (h_parser_trace, .inl (tc.1, 300, .inl c_parser_trace)), (h_parser_tree, .inr (9, [g_parser_tree_symbols, g_parser_tree_parents, g_parser_tree_heights, .int c_parser_tree_count])), (h_parser_errorParts, .inl (tc.1, 900, .inl c_parser_errorParts)), (h_parser_stack, .inl (tc.1, 65, .inl c_parser_stack)), (h_parser_bringers, .inl (tc.1, 65, .inl c_parser_bringers))] (fX11_recover N c_rules_codes c_rules_count c_sets_follow c_table_possible c_table_lowest c_input_terminals c_input_length c_parser_synchronizing c_parser_trace c_parser_traceLength c_parser_tree_count c_parser_errorParts c_parser_errorCount c_parser_stack c_parser_bringers c_parser_depth c_parser_index c_parser_steps) (fun (u : (Nat → Int32) × Int32 × Int32 × (Nat → Int32) × Int32 × (Nat → Int32) × (Nat → Int32) × Int32 × Int32 × Int32) => [(h_, .inr (11, [.ref h_rules, g_history, .ref h_sets, g_setsBefore, .ref h_table, g_failure, .ref h_input, .ref h_parser, g_examples, g_repairer])), (h_rules, .inr (6, [.ref h_rules_codes, .int c_rules_count])), (h_rules_codes, .inl (tc.1, 24, .inl c_rules_codes)), (h_sets, .inr (7, [g_sets_nullable, g_sets_first, .ref h_sets_follow, g_sets_begins])), (h_sets_follow, .inl (tc.1, 8, .inl c_sets_follow)), (h_table, .inr (8, [.ref h_rules, .ref h_sets, g_table_select, .ref h_table_possible, .ref h_table_lowest, g_table_conflicts])), (h_table_possible, .inl (tc.1, 72, .inl c_table_possible)), (h_table_lowest, .inl (tc.1, 72, .inl c_table_lowest)), (h_input, .inr (3, [.ref h_input_terminals, .int c_input_length])), (h_input_terminals, .inl (tc.1, 40, .inl c_input_terminals)), (h_parser, .inr (4, [.ref h_rules, .ref h_sets, .ref h_table, .ref h_input, .ref h_parser_synchronizing, .ref h_parser_trace, .int u.2.1, .ref h_parser_tree, .ref h_parser_errorParts, .int u.2.2.2.2.1, .ref h_parser_stack, .ref h_parser_bringers, .int u.2.2.2.2.2.2.2.1, .int u.2.2.2.2.2.2.2.2.1, .int u.2.2.2.2.2.2.2.2.2])), (h_parser_synchronizing, .inl (tc.1, 8, .inl c_parser_synchronizing)), (h_parser_trace, .inl (tc.1, 300, .inl u.1)), (h_parser_tree, .inr (9, [g_parser_tree_symbols, g_parser_tree_parents, g_parser_tree_heights, .int u.2.2.1])), (h_parser_errorParts, .inl (tc.1, 900, .inl u.2.2.2.1)), (h_parser_stack, .inl (tc.1, 65, .inl u.2.2.2.2.2.1)), (h_parser_bringers, .inl (tc.1, 65, .inl u.2.2.2.2.2.2.1))]) := by
  refine ctI_of (lv0 := [(0, .ref h_)]) (by decide +kernel) (Nat.le_of_ble_eq_true rfl) rfl (fun X C => ?_)
  unfold fX11_recover
  refine j_aload C d11_recover_0 0 rfl ?_
  refine j_get C d11_recover_1 fl11_61 0 rfl rfl ?_
  refine j_callVI11 (As := []) C d11_recover_4 mv11_266 (kX4_recoverInput _ _ tc N h_parser h_rules h_rules_codes h_sets h_sets_follow h_table h_table_possible h_table_lowest h_input h_input_terminals h_parser_synchronizing h_parser_trace h_parser_tree h_parser_errorParts h_parser_stack h_parser_bringers g_sets_nullable g_sets_first g_sets_begins g_table_select g_table_conflicts g_parser_tree_symbols g_parser_tree_parents g_parser_tree_heights c_rules_codes c_rules_count c_sets_follow c_table_possible c_table_lowest c_input_terminals c_input_length c_parser_synchronizing c_parser_trace c_parser_traceLength c_parser_tree_count c_parser_errorParts c_parser_errorCount c_parser_stack c_parser_bringers c_parser_depth c_parser_index c_parser_steps) ⟨rfl, rfl, Nat.le_of_ble_eq_true rfl, Nat.le_of_ble_eq_true rfl⟩ rfl 10 rfl [10, 1, 2, 3, 4, 5, 6, 7, 8, 9, 11, 12, 13, 14, 15, 16] rfl rfl rfl (Nat.le_of_ble_eq_true rfl) (fun o1 o2 o3 o4 o5 o6 o7 o8 o9 o10 => [(h_, .inr (11, [.ref h_rules, g_history, .ref h_sets, g_setsBefore, .ref h_table, g_failure, .ref h_input, .ref h_parser, g_examples, g_repairer])), (h_rules, .inr (6, [.ref h_rules_codes, .int c_rules_count])), (h_rules_codes, .inl (tc.1, 24, .inl c_rules_codes)), (h_sets, .inr (7, [g_sets_nullable, g_sets_first, .ref h_sets_follow, g_sets_begins])), (h_sets_follow, .inl (tc.1, 8, .inl c_sets_follow)), (h_table, .inr (8, [.ref h_rules, .ref h_sets, g_table_select, .ref h_table_possible, .ref h_table_lowest, g_table_conflicts])), (h_table_possible, .inl (tc.1, 72, .inl c_table_possible)), (h_table_lowest, .inl (tc.1, 72, .inl c_table_lowest)), (h_input, .inr (3, [.ref h_input_terminals, .int c_input_length])), (h_input_terminals, .inl (tc.1, 40, .inl c_input_terminals)), (h_parser, .inr (4, [.ref h_rules, .ref h_sets, .ref h_table, .ref h_input, .ref h_parser_synchronizing, .ref h_parser_trace, .int o2, .ref h_parser_tree, .ref h_parser_errorParts, .int o5, .ref h_parser_stack, .ref h_parser_bringers, .int o8, .int o9, .int o10])), (h_parser_synchronizing, .inl (tc.1, 8, .inl c_parser_synchronizing)), (h_parser_trace, .inl (tc.1, 300, .inl o1)), (h_parser_tree, .inr (9, [g_parser_tree_symbols, g_parser_tree_parents, g_parser_tree_heights, .int o3])), (h_parser_errorParts, .inl (tc.1, 900, .inl o4)), (h_parser_stack, .inl (tc.1, 65, .inl o6)), (h_parser_bringers, .inl (tc.1, 65, .inl o7))]) [(false, 0), (true, 1), (true, 2), (true, 3), (true, 4), (true, 5), (true, 6), (true, 7), (true, 8), (true, 9), (true, 0), (true, 10), (true, 11), (true, 12), (true, 13), (true, 14), (true, 15)] (fun _ => rfl) (by decide +kernel) (fun o11 o1 o2 o3 o4 o5 o6 o7 o8 o9 o10 => ?_)
  exact j_iret C d11_recover_7 rfl

theorem d11_error_0 : jdi cX11_error 0 2 1 := Or.inl ⟨2, by decide +kernel⟩
theorem d11_error_1 : jdb cX11_error 1 (.ifCond .lt 8) 8 9 4 := by decide +kernel
theorem d11_error_4 : jdi cX11_error 4 2 5 := Or.inl ⟨2, by decide +kernel⟩
theorem d11_error_5 : jdk cX11_error 5 2 6 := Or.inl ⟨2, by decide +kernel⟩
theorem d11_error_6 : jdb cX11_error 6 (.if_icmp .le 5) 5 11 9 := by decide +kernel
theorem d11_error_9 : jdk cX11_error 9 (-1) 10 := Or.inl ⟨(-1), by decide +kernel⟩
theorem d11_error_10 : decode cX11_error 10 = .ok (.ireturn, 1) := by decide +kernel
theorem d11_error_11 : jda cX11_error 11 0 12 := Or.inl ⟨0, by decide +kernel⟩
theorem d11_error_12 : jd cX11_error 12 (.getfield 61) 3 15 := by decide +kernel
theorem d11_error_15 : jdi cX11_error 15 1 16 := Or.inl ⟨1, by decide +kernel⟩
theorem d11_error_16 : jdi cX11_error 16 2 17 := Or.inl ⟨2, by decide +kernel⟩
theorem d11_error_17 : jd cX11_error 17 (.invokevirtual 269) 3 20 := by decide +kernel
theorem d11_error_20 : decode cX11_error 20 = .ok (.ireturn, 1) := by decide +kernel
set_option maxHeartbeats 4000000 in
set_option maxRecDepth 100000 in
theorem kX11_error (l : Launch) (D : va_G) (tc : jTC) (h_ h_parser h_parser_errorParts : Nat) (g_rules g_history g_sets g_setsBefore g_table g_failure g_input g_examples g_repairer g_parser_rules g_parser_sets g_parser_table g_parser_input g_parser_synchronizing g_parser_trace g_parser_traceLength g_parser_tree g_parser_stack g_parser_bringers g_parser_depth g_parser_index g_parser_steps : Value) (c_parser_errorParts : (Nat → Int32)) (c_parser_errorCount : Int32) (p1 : Int32) (p2 : Int32) : ctI0 l D tc yX11_error (Cond.code yX11_error cX11_error 3 (some .int) :: jtb) ({ frames := 1, cells := 0, slots := 0, locals := 22 } : Room) [.ref h_, .int p1, .int p2] [(h_, .inr (11, [g_rules, g_history, g_sets, g_setsBefore, g_table, g_failure, g_input, .ref h_parser, g_examples, g_repairer])), (h_parser, .inr (4, [g_parser_rules, g_parser_sets, g_parser_table, g_parser_input, g_parser_synchronizing, g_parser_trace, g_parser_traceLength, g_parser_tree, .ref h_parser_errorParts, .int c_parser_errorCount, g_parser_stack, g_parser_bringers, g_parser_depth, g_parser_index, g_parser_steps])), (h_parser_errorParts, .inl (tc.1, 900, .inl c_parser_errorParts))] (fX11_error c_parser_errorParts c_parser_errorCount p1 p2) := by
  refine ctI0_of (lv0 := [(0, .ref h_), (1, .int p1), (2, .int p2)]) (by decide +kernel) (Nat.le_of_ble_eq_true rfl) rfl (fun X C => ?_)
  unfold fX11_error
  refine j_iload C d11_error_0 2 rfl ?_
  refine j_join 9 (fun v1 => [(h_, .inr (11, [g_rules, g_history, g_sets, g_setsBefore, g_table, g_failure, g_input, .ref h_parser, g_examples, g_repairer])), (h_parser, .inr (4, [g_parser_rules, g_parser_sets, g_parser_table, g_parser_input, g_parser_synchronizing, g_parser_trace, g_parser_traceLength, g_parser_tree, .ref h_parser_errorParts, .int c_parser_errorCount, g_parser_stack, g_parser_bringers, g_parser_depth, g_parser_index, g_parser_steps])), (h_parser_errorParts, .inl (tc.1, 900, .inl c_parser_errorParts))]) (fun v1 => []) (fun v1 => []) (fun v1 => ?_) (fun k2 hk2 => ?_)
  · refine j_const C d11_error_9 ?_
    exact j_iret0 C d11_error_10
  · refine j_if_lt C d11_error_1 ?_ ?_
    · exact j_sub [] rfl (hk2 _)
    · refine j_iload C d11_error_4 2 rfl ?_
      refine j_const C d11_error_5 ?_
      refine j_icmp_le C d11_error_6 ?_ ?_
      · refine j_aload C d11_error_11 0 rfl ?_
        refine j_get C d11_error_12 fl11_61 0 rfl rfl ?_
        refine j_iload C d11_error_15 1 rfl ?_
        refine j_iload C d11_error_16 2 rfl ?_
        refine j_callVI0 (As := [.int p1, .int p2]) C d11_error_17 mv11_269 (kX4_errorPart _ _ tc h_parser h_parser_errorParts g_parser_rules g_parser_sets g_parser_table g_parser_input g_parser_synchronizing g_parser_trace g_parser_traceLength g_parser_tree g_parser_stack g_parser_bringers g_parser_depth g_parser_index g_parser_steps c_parser_errorParts c_parser_errorCount p1 p2) ⟨rfl, rfl, Nat.le_of_ble_eq_true rfl, Nat.le_of_ble_eq_true rfl⟩ rfl 1 rfl [1, 2] rfl rfl rfl (Nat.le_of_ble_eq_true rfl) (fun x3 => ?_)
        exact j_iret0 C d11_error_20
      · exact j_sub [] rfl (hk2 _)

theorem d11_traceLength_0 : jda cX11_traceLength 0 0 1 := Or.inl ⟨0, by decide +kernel⟩
theorem d11_traceLength_1 : jd cX11_traceLength 1 (.getfield 61) 3 4 := by decide +kernel
theorem d11_traceLength_4 : jd cX11_traceLength 4 (.getfield 272) 3 7 := by decide +kernel
theorem d11_traceLength_7 : decode cX11_traceLength 7 = .ok (.ireturn, 1) := by decide +kernel
set_option maxHeartbeats 4000000 in
set_option maxRecDepth 100000 in
theorem kX11_traceLength (l : Launch) (D : va_G) (tc : jTC) (h_ h_parser : Nat) (g_rules g_history g_sets g_setsBefore g_table g_failure g_input g_examples g_repairer g_parser_rules g_parser_sets g_parser_table g_parser_input g_parser_synchronizing g_parser_trace g_parser_tree g_parser_errorParts g_parser_errorCount g_parser_stack g_parser_bringers g_parser_depth g_parser_index g_parser_steps : Value) (c_parser_traceLength : Int32) : ctI0 l D tc yX11_traceLength (Cond.code yX11_traceLength cX11_traceLength 1 (some .int) :: jtb) ({ frames := 0, cells := 0, slots := 0, locals := 0 } : Room) [.ref h_] [(h_, .inr (11, [g_rules, g_history, g_sets, g_setsBefore, g_table, g_failure, g_input, .ref h_parser, g_examples, g_repairer])), (h_parser, .inr (4, [g_parser_rules, g_parser_sets, g_parser_table, g_parser_input, g_parser_synchronizing, g_parser_trace, .int c_parser_traceLength, g_parser_tree, g_parser_errorParts, g_parser_errorCount, g_parser_stack, g_parser_bringers, g_parser_depth, g_parser_index, g_parser_steps]))] (fX11_traceLength c_parser_traceLength) := by
  refine ctI0_of (lv0 := [(0, .ref h_)]) (by decide +kernel) (Nat.le_of_ble_eq_true rfl) rfl (fun X C => ?_)
  unfold fX11_traceLength
  refine j_aload C d11_traceLength_0 0 rfl ?_
  refine j_get C d11_traceLength_1 fl11_61 0 rfl rfl ?_
  refine j_get C d11_traceLength_4 fl11_272 1 rfl rfl ?_
  exact j_iret0 C d11_traceLength_7

theorem d11_trace_0 : jdi cX11_trace 0 1 1 := Or.inl ⟨1, by decide +kernel⟩
theorem d11_trace_1 : jdb cX11_trace 1 (.ifCond .lt 26) 26 27 4 := by decide +kernel
theorem d11_trace_4 : jdi cX11_trace 4 1 5 := Or.inl ⟨1, by decide +kernel⟩
theorem d11_trace_5 : jda cX11_trace 5 0 6 := Or.inl ⟨0, by decide +kernel⟩
theorem d11_trace_6 : jd cX11_trace 6 (.getfield 61) 3 9 := by decide +kernel
theorem d11_trace_9 : jd cX11_trace 9 (.getfield 272) 3 12 := by decide +kernel
theorem d11_trace_12 : jdb cX11_trace 12 (.if_icmp .ge 15) 15 27 15 := by decide +kernel
theorem d11_trace_15 : jda cX11_trace 15 0 16 := Or.inl ⟨0, by decide +kernel⟩
theorem d11_trace_16 : jd cX11_trace 16 (.getfield 61) 3 19 := by decide +kernel
theorem d11_trace_19 : jd cX11_trace 19 (.getfield 275) 3 22 := by decide +kernel
theorem d11_trace_22 : jdi cX11_trace 22 1 23 := Or.inl ⟨1, by decide +kernel⟩
theorem d11_trace_23 : jd cX11_trace 23 (.iaload) 1 24 := by decide +kernel
theorem d11_trace_24 : jdb cX11_trace 24 (.goto 5) 5 29 27 := by decide +kernel
theorem d11_trace_27 : jdk cX11_trace 27 (-2) 29 := Or.inr (Or.inl ⟨(-2), by decide +kernel⟩)
theorem d11_trace_29 : decode cX11_trace 29 = .ok (.ireturn, 1) := by decide +kernel
set_option maxHeartbeats 4000000 in
set_option maxRecDepth 100000 in
theorem kX11_trace (l : Launch) (D : va_G) (tc : jTC) (h_ h_parser h_parser_trace : Nat) (g_rules g_history g_sets g_setsBefore g_table g_failure g_input g_examples g_repairer g_parser_rules g_parser_sets g_parser_table g_parser_input g_parser_synchronizing g_parser_tree g_parser_errorParts g_parser_errorCount g_parser_stack g_parser_bringers g_parser_depth g_parser_index g_parser_steps : Value) (c_parser_trace : (Nat → Int32)) (c_parser_traceLength : Int32) (p1 : Int32) : ctI0 l D tc yX11_trace (Cond.code yX11_trace cX11_trace 2 (some .int) :: jtb) ({ frames := 0, cells := 0, slots := 0, locals := 0 } : Room) [.ref h_, .int p1] [(h_, .inr (11, [g_rules, g_history, g_sets, g_setsBefore, g_table, g_failure, g_input, .ref h_parser, g_examples, g_repairer])), (h_parser, .inr (4, [g_parser_rules, g_parser_sets, g_parser_table, g_parser_input, g_parser_synchronizing, .ref h_parser_trace, .int c_parser_traceLength, g_parser_tree, g_parser_errorParts, g_parser_errorCount, g_parser_stack, g_parser_bringers, g_parser_depth, g_parser_index, g_parser_steps])), (h_parser_trace, .inl (tc.1, 300, .inl c_parser_trace))] (fX11_trace c_parser_trace c_parser_traceLength p1) := by
  refine ctI0_of (lv0 := [(0, .ref h_), (1, .int p1)]) (by decide +kernel) (Nat.le_of_ble_eq_true rfl) rfl (fun X C => ?_)
  unfold fX11_trace
  refine j_iload C d11_trace_0 1 rfl ?_
  refine j_join 29 (fun v1 => [(h_, .inr (11, [g_rules, g_history, g_sets, g_setsBefore, g_table, g_failure, g_input, .ref h_parser, g_examples, g_repairer])), (h_parser, .inr (4, [g_parser_rules, g_parser_sets, g_parser_table, g_parser_input, g_parser_synchronizing, .ref h_parser_trace, .int c_parser_traceLength, g_parser_tree, g_parser_errorParts, g_parser_errorCount, g_parser_stack, g_parser_bringers, g_parser_depth, g_parser_index, g_parser_steps])), (h_parser_trace, .inl (tc.1, 300, .inl c_parser_trace))]) (fun v1 => []) (fun v1 => [.int v1]) (fun v1 => ?_) (fun k2 hk2 => ?_)
  · exact j_iret0 C d11_trace_29
  · refine j_join 27 (fun v3 => [(h_, .inr (11, [g_rules, g_history, g_sets, g_setsBefore, g_table, g_failure, g_input, .ref h_parser, g_examples, g_repairer])), (h_parser, .inr (4, [g_parser_rules, g_parser_sets, g_parser_table, g_parser_input, g_parser_synchronizing, .ref h_parser_trace, .int c_parser_traceLength, g_parser_tree, g_parser_errorParts, g_parser_errorCount, g_parser_stack, g_parser_bringers, g_parser_depth, g_parser_index, g_parser_steps])), (h_parser_trace, .inl (tc.1, 300, .inl c_parser_trace))]) (fun v3 => []) (fun v3 => []) (fun v3 => ?_) (fun k4 hk4 => ?_)
    · refine j_const C d11_trace_27 ?_
      exact hk2 _
    · refine j_if_lt C d11_trace_1 ?_ ?_
      · exact j_sub [] rfl (hk4 _)
      · refine j_iload C d11_trace_4 1 rfl ?_
        refine j_aload C d11_trace_5 0 rfl ?_
        refine j_get C d11_trace_6 fl11_61 0 rfl rfl ?_
        refine j_get C d11_trace_9 fl11_272 1 rfl rfl ?_
        refine j_icmp_ge C d11_trace_12 ?_ ?_
        · exact j_sub [] rfl (hk4 _)
        · refine j_aload C d11_trace_15 0 rfl ?_
          refine j_get C d11_trace_16 fl11_61 0 rfl rfl ?_
          refine j_get C d11_trace_19 fl11_275 1 rfl rfl ?_
          refine j_iload C d11_trace_22 1 rfl ?_
          refine j_iald C d11_trace_23 2 rfl (fun x5 => ?_)
          refine j_goto C d11_trace_24 ?_
          exact j_sub [] rfl (hk2 _)

theorem d11_nodeCount_0 : jda cX11_nodeCount 0 0 1 := Or.inl ⟨0, by decide +kernel⟩
theorem d11_nodeCount_1 : jd cX11_nodeCount 1 (.getfield 61) 3 4 := by decide +kernel
theorem d11_nodeCount_4 : jd cX11_nodeCount 4 (.getfield 278) 3 7 := by decide +kernel
theorem d11_nodeCount_7 : jd cX11_nodeCount 7 (.getfield 282) 3 10 := by decide +kernel
theorem d11_nodeCount_10 : decode cX11_nodeCount 10 = .ok (.ireturn, 1) := by decide +kernel
set_option maxHeartbeats 4000000 in
set_option maxRecDepth 100000 in
theorem kX11_nodeCount (l : Launch) (D : va_G) (tc : jTC) (h_ h_parser h_parser_tree : Nat) (g_rules g_history g_sets g_setsBefore g_table g_failure g_input g_examples g_repairer g_parser_rules g_parser_sets g_parser_table g_parser_input g_parser_synchronizing g_parser_trace g_parser_traceLength g_parser_errorParts g_parser_errorCount g_parser_stack g_parser_bringers g_parser_depth g_parser_index g_parser_steps g_parser_tree_symbols g_parser_tree_parents g_parser_tree_heights : Value) (c_parser_tree_count : Int32) : ctI0 l D tc yX11_nodeCount (Cond.code yX11_nodeCount cX11_nodeCount 1 (some .int) :: jtb) ({ frames := 0, cells := 0, slots := 0, locals := 0 } : Room) [.ref h_] [(h_, .inr (11, [g_rules, g_history, g_sets, g_setsBefore, g_table, g_failure, g_input, .ref h_parser, g_examples, g_repairer])), (h_parser, .inr (4, [g_parser_rules, g_parser_sets, g_parser_table, g_parser_input, g_parser_synchronizing, g_parser_trace, g_parser_traceLength, .ref h_parser_tree, g_parser_errorParts, g_parser_errorCount, g_parser_stack, g_parser_bringers, g_parser_depth, g_parser_index, g_parser_steps])), (h_parser_tree, .inr (9, [g_parser_tree_symbols, g_parser_tree_parents, g_parser_tree_heights, .int c_parser_tree_count]))] (fX11_nodeCount c_parser_tree_count) := by
  refine ctI0_of (lv0 := [(0, .ref h_)]) (by decide +kernel) (Nat.le_of_ble_eq_true rfl) rfl (fun X C => ?_)
  unfold fX11_nodeCount
  refine j_aload C d11_nodeCount_0 0 rfl ?_
  refine j_get C d11_nodeCount_1 fl11_61 0 rfl rfl ?_
  refine j_get C d11_nodeCount_4 fl11_278 1 rfl rfl ?_
  refine j_get C d11_nodeCount_7 fl11_282 2 rfl rfl ?_
  exact j_iret0 C d11_nodeCount_10

theorem d11_nodeSymbol_0 : jda cX11_nodeSymbol 0 0 1 := Or.inl ⟨0, by decide +kernel⟩
theorem d11_nodeSymbol_1 : jd cX11_nodeSymbol 1 (.getfield 61) 3 4 := by decide +kernel
theorem d11_nodeSymbol_4 : jd cX11_nodeSymbol 4 (.getfield 278) 3 7 := by decide +kernel
theorem d11_nodeSymbol_7 : jdi cX11_nodeSymbol 7 1 8 := Or.inl ⟨1, by decide +kernel⟩
theorem d11_nodeSymbol_8 : jd cX11_nodeSymbol 8 (.invokevirtual 285) 3 11 := by decide +kernel
theorem d11_nodeSymbol_11 : jdb cX11_nodeSymbol 11 (.ifCond .eq 18) 18 29 14 := by decide +kernel
theorem d11_nodeSymbol_14 : jda cX11_nodeSymbol 14 0 15 := Or.inl ⟨0, by decide +kernel⟩
theorem d11_nodeSymbol_15 : jd cX11_nodeSymbol 15 (.getfield 61) 3 18 := by decide +kernel
theorem d11_nodeSymbol_18 : jd cX11_nodeSymbol 18 (.getfield 278) 3 21 := by decide +kernel
theorem d11_nodeSymbol_21 : jd cX11_nodeSymbol 21 (.getfield 286) 3 24 := by decide +kernel
theorem d11_nodeSymbol_24 : jdi cX11_nodeSymbol 24 1 25 := Or.inl ⟨1, by decide +kernel⟩
theorem d11_nodeSymbol_25 : jd cX11_nodeSymbol 25 (.iaload) 1 26 := by decide +kernel
theorem d11_nodeSymbol_26 : jdb cX11_nodeSymbol 26 (.goto 5) 5 31 29 := by decide +kernel
theorem d11_nodeSymbol_29 : jdk cX11_nodeSymbol 29 (-2) 31 := Or.inr (Or.inl ⟨(-2), by decide +kernel⟩)
theorem d11_nodeSymbol_31 : decode cX11_nodeSymbol 31 = .ok (.ireturn, 1) := by decide +kernel
set_option maxHeartbeats 4000000 in
set_option maxRecDepth 100000 in
theorem kX11_nodeSymbol (l : Launch) (D : va_G) (tc : jTC) (h_ h_parser h_parser_tree h_parser_tree_symbols : Nat) (g_rules g_history g_sets g_setsBefore g_table g_failure g_input g_examples g_repairer g_parser_rules g_parser_sets g_parser_table g_parser_input g_parser_synchronizing g_parser_trace g_parser_traceLength g_parser_errorParts g_parser_errorCount g_parser_stack g_parser_bringers g_parser_depth g_parser_index g_parser_steps g_parser_tree_parents g_parser_tree_heights : Value) (c_parser_tree_symbols : (Nat → Int32)) (c_parser_tree_count : Int32) (p1 : Int32) : ctI0 l D tc yX11_nodeSymbol (Cond.code yX11_nodeSymbol cX11_nodeSymbol 2 (some .int) :: jtb) ({ frames := 1, cells := 0, slots := 0, locals := 21 } : Room) [.ref h_, .int p1] [(h_, .inr (11, [g_rules, g_history, g_sets, g_setsBefore, g_table, g_failure, g_input, .ref h_parser, g_examples, g_repairer])), (h_parser, .inr (4, [g_parser_rules, g_parser_sets, g_parser_table, g_parser_input, g_parser_synchronizing, g_parser_trace, g_parser_traceLength, .ref h_parser_tree, g_parser_errorParts, g_parser_errorCount, g_parser_stack, g_parser_bringers, g_parser_depth, g_parser_index, g_parser_steps])), (h_parser_tree, .inr (9, [.ref h_parser_tree_symbols, g_parser_tree_parents, g_parser_tree_heights, .int c_parser_tree_count])), (h_parser_tree_symbols, .inl (tc.1, 300, .inl c_parser_tree_symbols))] (fX11_nodeSymbol c_parser_tree_symbols c_parser_tree_count p1) := by
  refine ctI0_of (lv0 := [(0, .ref h_), (1, .int p1)]) (by decide +kernel) (Nat.le_of_ble_eq_true rfl) rfl (fun X C => ?_)
  unfold fX11_nodeSymbol
  refine j_aload C d11_nodeSymbol_0 0 rfl ?_
  refine j_get C d11_nodeSymbol_1 fl11_61 0 rfl rfl ?_
  refine j_get C d11_nodeSymbol_4 fl11_278 1 rfl rfl ?_
  refine j_iload C d11_nodeSymbol_7 1 rfl ?_
  refine j_callVI0 (As := [.int p1]) C d11_nodeSymbol_8 mv11_285 (kX9_has _ _ tc h_parser_tree (.ref h_parser_tree_symbols) g_parser_tree_parents g_parser_tree_heights c_parser_tree_count p1) ⟨rfl, rfl, Nat.le_of_ble_eq_true rfl, Nat.le_of_ble_eq_true rfl⟩ rfl 2 rfl [2] rfl rfl rfl (Nat.le_of_ble_eq_true rfl) (fun x1 => ?_)
  refine j_join 31 (fun v2 => [(h_, .inr (11, [g_rules, g_history, g_sets, g_setsBefore, g_table, g_failure, g_input, .ref h_parser, g_examples, g_repairer])), (h_parser, .inr (4, [g_parser_rules, g_parser_sets, g_parser_table, g_parser_input, g_parser_synchronizing, g_parser_trace, g_parser_traceLength, .ref h_parser_tree, g_parser_errorParts, g_parser_errorCount, g_parser_stack, g_parser_bringers, g_parser_depth, g_parser_index, g_parser_steps])), (h_parser_tree, .inr (9, [.ref h_parser_tree_symbols, g_parser_tree_parents, g_parser_tree_heights, .int c_parser_tree_count])), (h_parser_tree_symbols, .inl (tc.1, 300, .inl c_parser_tree_symbols))]) (fun v2 => []) (fun v2 => [.int v2]) (fun v2 => ?_) (fun k3 hk3 => ?_)
  · exact j_iret0 C d11_nodeSymbol_31
  · refine j_if_eq C d11_nodeSymbol_11 ?_ ?_
    · refine j_const C d11_nodeSymbol_29 ?_
      exact j_sub [] rfl (hk3 _)
    · refine j_aload C d11_nodeSymbol_14 0 rfl ?_
      refine j_get C d11_nodeSymbol_15 fl11_61 0 rfl rfl ?_
      refine j_get C d11_nodeSymbol_18 fl11_278 1 rfl rfl ?_
      refine j_get C d11_nodeSymbol_21 fl11_286 2 rfl rfl ?_
      refine j_iload C d11_nodeSymbol_24 1 rfl ?_
      refine j_iald C d11_nodeSymbol_25 3 rfl (fun x4 => ?_)
      refine j_goto C d11_nodeSymbol_26 ?_
      exact j_sub [] rfl (hk3 _)

theorem d11_nodeParent_0 : jda cX11_nodeParent 0 0 1 := Or.inl ⟨0, by decide +kernel⟩
theorem d11_nodeParent_1 : jd cX11_nodeParent 1 (.getfield 61) 3 4 := by decide +kernel
theorem d11_nodeParent_4 : jd cX11_nodeParent 4 (.getfield 278) 3 7 := by decide +kernel
theorem d11_nodeParent_7 : jdi cX11_nodeParent 7 1 8 := Or.inl ⟨1, by decide +kernel⟩
theorem d11_nodeParent_8 : jd cX11_nodeParent 8 (.invokevirtual 285) 3 11 := by decide +kernel
theorem d11_nodeParent_11 : jdb cX11_nodeParent 11 (.ifCond .eq 18) 18 29 14 := by decide +kernel
theorem d11_nodeParent_14 : jda cX11_nodeParent 14 0 15 := Or.inl ⟨0, by decide +kernel⟩
theorem d11_nodeParent_15 : jd cX11_nodeParent 15 (.getfield 61) 3 18 := by decide +kernel
theorem d11_nodeParent_18 : jd cX11_nodeParent 18 (.getfield 278) 3 21 := by decide +kernel
theorem d11_nodeParent_21 : jd cX11_nodeParent 21 (.getfield 289) 3 24 := by decide +kernel
theorem d11_nodeParent_24 : jdi cX11_nodeParent 24 1 25 := Or.inl ⟨1, by decide +kernel⟩
theorem d11_nodeParent_25 : jd cX11_nodeParent 25 (.iaload) 1 26 := by decide +kernel
theorem d11_nodeParent_26 : jdb cX11_nodeParent 26 (.goto 5) 5 31 29 := by decide +kernel
theorem d11_nodeParent_29 : jdk cX11_nodeParent 29 (-2) 31 := Or.inr (Or.inl ⟨(-2), by decide +kernel⟩)
theorem d11_nodeParent_31 : decode cX11_nodeParent 31 = .ok (.ireturn, 1) := by decide +kernel
set_option maxHeartbeats 4000000 in
set_option maxRecDepth 100000 in
theorem kX11_nodeParent (l : Launch) (D : va_G) (tc : jTC) (h_ h_parser h_parser_tree h_parser_tree_parents : Nat) (g_rules g_history g_sets g_setsBefore g_table g_failure g_input g_examples g_repairer g_parser_rules g_parser_sets g_parser_table g_parser_input g_parser_synchronizing g_parser_trace g_parser_traceLength g_parser_errorParts g_parser_errorCount g_parser_stack g_parser_bringers g_parser_depth g_parser_index g_parser_steps g_parser_tree_symbols g_parser_tree_heights : Value) (c_parser_tree_parents : (Nat → Int32)) (c_parser_tree_count : Int32) (p1 : Int32) : ctI0 l D tc yX11_nodeParent (Cond.code yX11_nodeParent cX11_nodeParent 2 (some .int) :: jtb) ({ frames := 1, cells := 0, slots := 0, locals := 21 } : Room) [.ref h_, .int p1] [(h_, .inr (11, [g_rules, g_history, g_sets, g_setsBefore, g_table, g_failure, g_input, .ref h_parser, g_examples, g_repairer])), (h_parser, .inr (4, [g_parser_rules, g_parser_sets, g_parser_table, g_parser_input, g_parser_synchronizing, g_parser_trace, g_parser_traceLength, .ref h_parser_tree, g_parser_errorParts, g_parser_errorCount, g_parser_stack, g_parser_bringers, g_parser_depth, g_parser_index, g_parser_steps])), (h_parser_tree, .inr (9, [g_parser_tree_symbols, .ref h_parser_tree_parents, g_parser_tree_heights, .int c_parser_tree_count])), (h_parser_tree_parents, .inl (tc.1, 300, .inl c_parser_tree_parents))] (fX11_nodeParent c_parser_tree_parents c_parser_tree_count p1) := by
  refine ctI0_of (lv0 := [(0, .ref h_), (1, .int p1)]) (by decide +kernel) (Nat.le_of_ble_eq_true rfl) rfl (fun X C => ?_)
  unfold fX11_nodeParent
  refine j_aload C d11_nodeParent_0 0 rfl ?_
  refine j_get C d11_nodeParent_1 fl11_61 0 rfl rfl ?_
  refine j_get C d11_nodeParent_4 fl11_278 1 rfl rfl ?_
  refine j_iload C d11_nodeParent_7 1 rfl ?_
  refine j_callVI0 (As := [.int p1]) C d11_nodeParent_8 mv11_285 (kX9_has _ _ tc h_parser_tree g_parser_tree_symbols (.ref h_parser_tree_parents) g_parser_tree_heights c_parser_tree_count p1) ⟨rfl, rfl, Nat.le_of_ble_eq_true rfl, Nat.le_of_ble_eq_true rfl⟩ rfl 2 rfl [2] rfl rfl rfl (Nat.le_of_ble_eq_true rfl) (fun x1 => ?_)
  refine j_join 31 (fun v2 => [(h_, .inr (11, [g_rules, g_history, g_sets, g_setsBefore, g_table, g_failure, g_input, .ref h_parser, g_examples, g_repairer])), (h_parser, .inr (4, [g_parser_rules, g_parser_sets, g_parser_table, g_parser_input, g_parser_synchronizing, g_parser_trace, g_parser_traceLength, .ref h_parser_tree, g_parser_errorParts, g_parser_errorCount, g_parser_stack, g_parser_bringers, g_parser_depth, g_parser_index, g_parser_steps])), (h_parser_tree, .inr (9, [g_parser_tree_symbols, .ref h_parser_tree_parents, g_parser_tree_heights, .int c_parser_tree_count])), (h_parser_tree_parents, .inl (tc.1, 300, .inl c_parser_tree_parents))]) (fun v2 => []) (fun v2 => [.int v2]) (fun v2 => ?_) (fun k3 hk3 => ?_)
  · exact j_iret0 C d11_nodeParent_31
  · refine j_if_eq C d11_nodeParent_11 ?_ ?_
    · refine j_const C d11_nodeParent_29 ?_
      exact j_sub [] rfl (hk3 _)
    · refine j_aload C d11_nodeParent_14 0 rfl ?_
      refine j_get C d11_nodeParent_15 fl11_61 0 rfl rfl ?_
      refine j_get C d11_nodeParent_18 fl11_278 1 rfl rfl ?_
      refine j_get C d11_nodeParent_21 fl11_289 2 rfl rfl ?_
      refine j_iload C d11_nodeParent_24 1 rfl ?_
      refine j_iald C d11_nodeParent_25 3 rfl (fun x4 => ?_)
      refine j_goto C d11_nodeParent_26 ?_
      exact j_sub [] rfl (hk3 _)

theorem d11_nodeHeight_0 : jda cX11_nodeHeight 0 0 1 := Or.inl ⟨0, by decide +kernel⟩
theorem d11_nodeHeight_1 : jd cX11_nodeHeight 1 (.getfield 61) 3 4 := by decide +kernel
theorem d11_nodeHeight_4 : jd cX11_nodeHeight 4 (.getfield 278) 3 7 := by decide +kernel
theorem d11_nodeHeight_7 : jdi cX11_nodeHeight 7 1 8 := Or.inl ⟨1, by decide +kernel⟩
theorem d11_nodeHeight_8 : jd cX11_nodeHeight 8 (.invokevirtual 285) 3 11 := by decide +kernel
theorem d11_nodeHeight_11 : jdb cX11_nodeHeight 11 (.ifCond .eq 18) 18 29 14 := by decide +kernel
theorem d11_nodeHeight_14 : jda cX11_nodeHeight 14 0 15 := Or.inl ⟨0, by decide +kernel⟩
theorem d11_nodeHeight_15 : jd cX11_nodeHeight 15 (.getfield 61) 3 18 := by decide +kernel
theorem d11_nodeHeight_18 : jd cX11_nodeHeight 18 (.getfield 278) 3 21 := by decide +kernel
theorem d11_nodeHeight_21 : jd cX11_nodeHeight 21 (.getfield 292) 3 24 := by decide +kernel
theorem d11_nodeHeight_24 : jdi cX11_nodeHeight 24 1 25 := Or.inl ⟨1, by decide +kernel⟩
theorem d11_nodeHeight_25 : jd cX11_nodeHeight 25 (.iaload) 1 26 := by decide +kernel
theorem d11_nodeHeight_26 : jdb cX11_nodeHeight 26 (.goto 5) 5 31 29 := by decide +kernel
theorem d11_nodeHeight_29 : jdk cX11_nodeHeight 29 (-2) 31 := Or.inr (Or.inl ⟨(-2), by decide +kernel⟩)
theorem d11_nodeHeight_31 : decode cX11_nodeHeight 31 = .ok (.ireturn, 1) := by decide +kernel
set_option maxHeartbeats 4000000 in
set_option maxRecDepth 100000 in
theorem kX11_nodeHeight (l : Launch) (D : va_G) (tc : jTC) (h_ h_parser h_parser_tree h_parser_tree_heights : Nat) (g_rules g_history g_sets g_setsBefore g_table g_failure g_input g_examples g_repairer g_parser_rules g_parser_sets g_parser_table g_parser_input g_parser_synchronizing g_parser_trace g_parser_traceLength g_parser_errorParts g_parser_errorCount g_parser_stack g_parser_bringers g_parser_depth g_parser_index g_parser_steps g_parser_tree_symbols g_parser_tree_parents : Value) (c_parser_tree_heights : (Nat → Int32)) (c_parser_tree_count : Int32) (p1 : Int32) : ctI0 l D tc yX11_nodeHeight (Cond.code yX11_nodeHeight cX11_nodeHeight 2 (some .int) :: jtb) ({ frames := 1, cells := 0, slots := 0, locals := 21 } : Room) [.ref h_, .int p1] [(h_, .inr (11, [g_rules, g_history, g_sets, g_setsBefore, g_table, g_failure, g_input, .ref h_parser, g_examples, g_repairer])), (h_parser, .inr (4, [g_parser_rules, g_parser_sets, g_parser_table, g_parser_input, g_parser_synchronizing, g_parser_trace, g_parser_traceLength, .ref h_parser_tree, g_parser_errorParts, g_parser_errorCount, g_parser_stack, g_parser_bringers, g_parser_depth, g_parser_index, g_parser_steps])), (h_parser_tree, .inr (9, [g_parser_tree_symbols, g_parser_tree_parents, .ref h_parser_tree_heights, .int c_parser_tree_count])), (h_parser_tree_heights, .inl (tc.1, 300, .inl c_parser_tree_heights))] (fX11_nodeHeight c_parser_tree_heights c_parser_tree_count p1) := by
  refine ctI0_of (lv0 := [(0, .ref h_), (1, .int p1)]) (by decide +kernel) (Nat.le_of_ble_eq_true rfl) rfl (fun X C => ?_)
  unfold fX11_nodeHeight
  refine j_aload C d11_nodeHeight_0 0 rfl ?_
  refine j_get C d11_nodeHeight_1 fl11_61 0 rfl rfl ?_
  refine j_get C d11_nodeHeight_4 fl11_278 1 rfl rfl ?_
  refine j_iload C d11_nodeHeight_7 1 rfl ?_
  refine j_callVI0 (As := [.int p1]) C d11_nodeHeight_8 mv11_285 (kX9_has _ _ tc h_parser_tree g_parser_tree_symbols g_parser_tree_parents (.ref h_parser_tree_heights) c_parser_tree_count p1) ⟨rfl, rfl, Nat.le_of_ble_eq_true rfl, Nat.le_of_ble_eq_true rfl⟩ rfl 2 rfl [2] rfl rfl rfl (Nat.le_of_ble_eq_true rfl) (fun x1 => ?_)
  refine j_join 31 (fun v2 => [(h_, .inr (11, [g_rules, g_history, g_sets, g_setsBefore, g_table, g_failure, g_input, .ref h_parser, g_examples, g_repairer])), (h_parser, .inr (4, [g_parser_rules, g_parser_sets, g_parser_table, g_parser_input, g_parser_synchronizing, g_parser_trace, g_parser_traceLength, .ref h_parser_tree, g_parser_errorParts, g_parser_errorCount, g_parser_stack, g_parser_bringers, g_parser_depth, g_parser_index, g_parser_steps])), (h_parser_tree, .inr (9, [g_parser_tree_symbols, g_parser_tree_parents, .ref h_parser_tree_heights, .int c_parser_tree_count])), (h_parser_tree_heights, .inl (tc.1, 300, .inl c_parser_tree_heights))]) (fun v2 => []) (fun v2 => [.int v2]) (fun v2 => ?_) (fun k3 hk3 => ?_)
  · exact j_iret0 C d11_nodeHeight_31
  · refine j_if_eq C d11_nodeHeight_11 ?_ ?_
    · refine j_const C d11_nodeHeight_29 ?_
      exact j_sub [] rfl (hk3 _)
    · refine j_aload C d11_nodeHeight_14 0 rfl ?_
      refine j_get C d11_nodeHeight_15 fl11_61 0 rfl rfl ?_
      refine j_get C d11_nodeHeight_18 fl11_278 1 rfl rfl ?_
      refine j_get C d11_nodeHeight_21 fl11_292 2 rfl rfl ?_
      refine j_iload C d11_nodeHeight_24 1 rfl ?_
      refine j_iald C d11_nodeHeight_25 3 rfl (fun x4 => ?_)
      refine j_goto C d11_nodeHeight_26 ?_
      exact j_sub [] rfl (hk3 _)

theorem d11_setWeight_0 : jdi cX11_setWeight 0 1 1 := Or.inl ⟨1, by decide +kernel⟩
theorem d11_setWeight_1 : jdb cX11_setWeight 1 (.ifCond .lt 20) 20 21 4 := by decide +kernel
theorem d11_setWeight_4 : jdi cX11_setWeight 4 1 5 := Or.inl ⟨1, by decide +kernel⟩
theorem d11_setWeight_5 : jdk cX11_setWeight 5 8 7 := Or.inr (Or.inl ⟨8, by decide +kernel⟩)
theorem d11_setWeight_7 : jdb cX11_setWeight 7 (.if_icmp .ge 14) 14 21 10 := by decide +kernel
theorem d11_setWeight_10 : jdi cX11_setWeight 10 2 11 := Or.inl ⟨2, by decide +kernel⟩
theorem d11_setWeight_11 : jdk cX11_setWeight 11 1 12 := Or.inl ⟨1, by decide +kernel⟩
theorem d11_setWeight_12 : jdb cX11_setWeight 12 (.if_icmp .lt 9) 9 21 15 := by decide +kernel
theorem d11_setWeight_15 : jdi cX11_setWeight 15 2 16 := Or.inl ⟨2, by decide +kernel⟩
theorem d11_setWeight_16 : jdk cX11_setWeight 16 9 18 := Or.inr (Or.inl ⟨9, by decide +kernel⟩)
theorem d11_setWeight_18 : jdb cX11_setWeight 18 (.if_icmp .le 5) 5 23 21 := by decide +kernel
theorem d11_setWeight_21 : jdk cX11_setWeight 21 (-1) 22 := Or.inl ⟨(-1), by decide +kernel⟩
theorem d11_setWeight_22 : decode cX11_setWeight 22 = .ok (.ireturn, 1) := by decide +kernel
theorem d11_setWeight_23 : jda cX11_setWeight 23 0 24 := Or.inl ⟨0, by decide +kernel⟩
theorem d11_setWeight_24 : jd cX11_setWeight 24 (.getfield 79) 3 27 := by decide +kernel
theorem d11_setWeight_27 : jd cX11_setWeight 27 (.getfield 295) 3 30 := by decide +kernel
theorem d11_setWeight_30 : jdi cX11_setWeight 30 1 31 := Or.inl ⟨1, by decide +kernel⟩
theorem d11_setWeight_31 : jd cX11_setWeight 31 (.iaload) 1 32 := by decide +kernel
theorem d11_setWeight_32 : jds cX11_setWeight 32 3 33 := Or.inl ⟨3, by decide +kernel⟩
theorem d11_setWeight_33 : jda cX11_setWeight 33 0 34 := Or.inl ⟨0, by decide +kernel⟩
theorem d11_setWeight_34 : jd cX11_setWeight 34 (.getfield 79) 3 37 := by decide +kernel
theorem d11_setWeight_37 : jd cX11_setWeight 37 (.getfield 295) 3 40 := by decide +kernel
theorem d11_setWeight_40 : jdi cX11_setWeight 40 1 41 := Or.inl ⟨1, by decide +kernel⟩
theorem d11_setWeight_41 : jdi cX11_setWeight 41 2 42 := Or.inl ⟨2, by decide +kernel⟩
theorem d11_setWeight_42 : jd cX11_setWeight 42 (.iastore) 1 43 := by decide +kernel
theorem d11_setWeight_43 : jdi cX11_setWeight 43 3 44 := Or.inl ⟨3, by decide +kernel⟩
theorem d11_setWeight_44 : decode cX11_setWeight 44 = .ok (.ireturn, 1) := by decide +kernel
set_option maxHeartbeats 4000000 in
set_option maxRecDepth 100000 in
theorem kX11_setWeight (l : Launch) (D : va_G) (tc : jTC) (h_ h_repairer h_repairer_weights : Nat) (g_rules g_history g_sets g_setsBefore g_table g_failure g_input g_parser g_examples g_repairer_rules g_repairer_input g_repairer_words : Value) (c_repairer_weights : (Nat → Int32)) (p1 : Int32) (p2 : Int32) : ctI l D tc yX11_setWeight (Cond.code yX11_setWeight cX11_setWeight 4 (some .int) :: jtb) ({ frames := 0, cells := 0, slots := 0, locals := 0 } : Room) [.ref h_, .int p1, .int p2] [(h_, .inr (11, [g_rules, g_history, g_sets, g_setsBefore, g_table, g_failure, g_input, g_parser, g_examples, .ref h_repairer])), (h_repairer, .inr (5, [g_repairer_rules, g_repairer_input, .ref h_repairer_weights, g_repairer_words])), (h_repairer_weights, .inl (tc.1, 8, .inl c_repairer_weights))] (fX11_setWeight c_repairer_weights p1 p2) (fun (u : (Nat → Int32)) => [(h_, .inr (11, [g_rules, g_history, g_sets, g_setsBefore, g_table, g_failure, g_input, g_parser, g_examples, .ref h_repairer])), (h_repairer, .inr (5, [g_repairer_rules, g_repairer_input, .ref h_repairer_weights, g_repairer_words])), (h_repairer_weights, .inl (tc.1, 8, .inl u))]) := by
  refine ctI_of (lv0 := [(0, .ref h_), (1, .int p1), (2, .int p2)]) (by decide +kernel) (Nat.le_of_ble_eq_true rfl) rfl (fun X C => ?_)
  unfold fX11_setWeight
  refine j_iload C d11_setWeight_0 1 rfl ?_
  refine j_join 21 (fun v1 => [(h_, .inr (11, [g_rules, g_history, g_sets, g_setsBefore, g_table, g_failure, g_input, g_parser, g_examples, .ref h_repairer])), (h_repairer, .inr (5, [g_repairer_rules, g_repairer_input, .ref h_repairer_weights, g_repairer_words])), (h_repairer_weights, .inl (tc.1, 8, .inl c_repairer_weights))]) (fun v1 => []) (fun v1 => []) (fun v1 => ?_) (fun k2 hk2 => ?_)
  · refine j_const C d11_setWeight_21 ?_
    exact j_iret C d11_setWeight_22 rfl
  · refine j_if_lt C d11_setWeight_1 ?_ ?_
    · exact j_sub [] rfl (hk2 _)
    · refine j_iload C d11_setWeight_4 1 rfl ?_
      refine j_const C d11_setWeight_5 ?_
      refine j_icmp_ge C d11_setWeight_7 ?_ ?_
      · exact j_sub [] rfl (hk2 _)
      · refine j_iload C d11_setWeight_10 2 rfl ?_
        refine j_const C d11_setWeight_11 ?_
        refine j_icmp_lt C d11_setWeight_12 ?_ ?_
        · exact j_sub [] rfl (hk2 _)
        · refine j_iload C d11_setWeight_15 2 rfl ?_
          refine j_const C d11_setWeight_16 ?_
          refine j_icmp_le C d11_setWeight_18 ?_ ?_
          · refine j_aload C d11_setWeight_23 0 rfl ?_
            refine j_get C d11_setWeight_24 fl11_79 0 rfl rfl ?_
            refine j_get C d11_setWeight_27 fl11_295 1 rfl rfl ?_
            refine j_iload C d11_setWeight_30 1 rfl ?_
            refine j_iald C d11_setWeight_31 2 rfl (fun x3 => ?_)
            refine j_istore C d11_setWeight_32 (by decide) (lv' := [(3, .int x3), (0, .ref h_), (1, .int p1), (2, .int p2)]) rfl ?_
            refine j_aload C d11_setWeight_33 1 rfl ?_
            refine j_get C d11_setWeight_34 fl11_79 0 rfl rfl ?_
            refine j_get C d11_setWeight_37 fl11_295 1 rfl rfl ?_
            refine j_iload C d11_setWeight_40 2 rfl ?_
            refine j_iload C d11_setWeight_41 3 rfl ?_
            refine j_iast C (fun f4 => [(h_, .inr (11, [g_rules, g_history, g_sets, g_setsBefore, g_table, g_failure, g_input, g_parser, g_examples, .ref h_repairer])), (h_repairer, .inr (5, [g_repairer_rules, g_repairer_input, .ref h_repairer_weights, g_repairer_words])), (h_repairer_weights, .inl (tc.1, 8, .inl f4))]) d11_setWeight_42 2 rfl (fun _ => rfl) (fun f4 => ?_)
            refine j_iload C d11_setWeight_43 0 rfl ?_
            exact j_iret C d11_setWeight_44 rfl
          · exact j_sub [] rfl (hk2 _)

theorem d11_repair_0 : jda cX11_repair 0 0 1 := Or.inl ⟨0, by decide +kernel⟩
theorem d11_repair_1 : jd cX11_repair 1 (.getfield 52) 3 4 := by decide +kernel
theorem d11_repair_4 : jd cX11_repair 4 (.getfield 249) 3 7 := by decide +kernel
theorem d11_repair_7 : jdk cX11_repair 7 8 9 := Or.inr (Or.inl ⟨8, by decide +kernel⟩)
theorem d11_repair_9 : jdb cX11_repair 9 (.if_icmp .le 6) 6 15 12 := by decide +kernel
theorem d11_repair_12 : jdk cX11_repair 12 (-6) 14 := Or.inr (Or.inl ⟨(-6), by decide +kernel⟩)
theorem d11_repair_14 : decode cX11_repair 14 = .ok (.ireturn, 1) := by decide +kernel
theorem d11_repair_15 : jda cX11_repair 15 0 16 := Or.inl ⟨0, by decide +kernel⟩
theorem d11_repair_16 : jd cX11_repair 16 (.getfield 79) 3 19 := by decide +kernel
theorem d11_repair_19 : jd cX11_repair 19 (.invokevirtual 298) 3 22 := by decide +kernel
theorem d11_repair_22 : decode cX11_repair 22 = .ok (.ireturn, 1) := by decide +kernel
set_option maxHeartbeats 4000000 in
set_option maxRecDepth 100000 in
theorem kX11_repair (l : Launch) (D : va_G) (tc : jTC) (N : Nat) (h_ h_rules h_rules_codes h_input h_input_terminals h_repairer h_repairer_weights h_repairer_words h_repairer_words_costs h_repairer_words_highs h_repairer_words_lows : Nat) (g_history g_sets g_setsBefore g_table g_failure g_parser g_examples : Value) (c_rules_codes : (Nat → Int32)) (c_rules_count : Int32) (c_input_terminals : (Nat → Int32)) (c_input_length : Int32) (c_repairer_weights : (Nat → Int32)) (c_repairer_words_costs : (Nat → Int32)) (c_repairer_words_highs : (Nat → Int64)) (c_repairer_words_lows : (Nat → Int64)) : ctI l D tc yX11_repair (Cond.code yX11_repair cX11_repair 1 (some .int) :: jtb) ({ frames := 6, cells := 0, slots := 0, locals := 154 } : Room) [.ref h_] [(h_, .inr (11, [.ref h_rules, g_history, g_sets, g_setsBefore, g_table, g_failure, .ref h_input, g_parser, g_examples, .ref h_repairer])), (h_rules, .inr (6, [.ref h_rules_codes, .int c_rules_count])), (h_rules_codes, .inl (tc.1, 24, .inl c_rules_codes)), (h_input, .inr (3, [.ref h_input_terminals, .int c_input_length])), (h_input_terminals, .inl (tc.1, 40, .inl c_input_terminals)), (h_repairer, .inr (5, [.ref h_rules, .ref h_input, .ref h_repairer_weights, .ref h_repairer_words])), (h_repairer_weights, .inl (tc.1, 8, .inl c_repairer_weights)), (h_repairer_words, .inr (10, [.ref h_repairer_words_costs, .ref h_repairer_words_highs, .ref h_repairer_words_lows])), (h_repairer_words_costs, .inl (tc.1, 1469, .inl c_repairer_words_costs)), (h_repairer_words_highs, .inl (tc.2.1, 1469, .inr (.inl c_repairer_words_highs))), (h_repairer_words_lows, .inl (tc.2.1, 1469, .inr (.inl c_repairer_words_lows)))] (fX11_repair N c_rules_codes c_rules_count c_input_terminals c_input_length c_repairer_weights c_repairer_words_costs c_repairer_words_highs c_repairer_words_lows) (fun (u : (Nat → Int32) × (Nat → Int64) × (Nat → Int64)) => [(h_, .inr (11, [.ref h_rules, g_history, g_sets, g_setsBefore, g_table, g_failure, .ref h_input, g_parser, g_examples, .ref h_repairer])), (h_rules, .inr (6, [.ref h_rules_codes, .int c_rules_count])), (h_rules_codes, .inl (tc.1, 24, .inl c_rules_codes)), (h_input, .inr (3, [.ref h_input_terminals, .int c_input_length])), (h_input_terminals, .inl (tc.1, 40, .inl c_input_terminals)), (h_repairer, .inr (5, [.ref h_rules, .ref h_input, .ref h_repairer_weights, .ref h_repairer_words])), (h_repairer_weights, .inl (tc.1, 8, .inl c_repairer_weights)), (h_repairer_words, .inr (10, [.ref h_repairer_words_costs, .ref h_repairer_words_highs, .ref h_repairer_words_lows])), (h_repairer_words_costs, .inl (tc.1, 1469, .inl u.1)), (h_repairer_words_highs, .inl (tc.2.1, 1469, .inr (.inl u.2.1))), (h_repairer_words_lows, .inl (tc.2.1, 1469, .inr (.inl u.2.2)))]) := by
  refine ctI_of (lv0 := [(0, .ref h_)]) (by decide +kernel) (Nat.le_of_ble_eq_true rfl) rfl (fun X C => ?_)
  unfold fX11_repair
  refine j_aload C d11_repair_0 0 rfl ?_
  refine j_get C d11_repair_1 fl11_52 0 rfl rfl ?_
  refine j_get C d11_repair_4 fl11_249 3 rfl rfl ?_
  refine j_const C d11_repair_7 ?_
  refine j_icmp_le C d11_repair_9 ?_ ?_
  · refine j_aload C d11_repair_15 0 rfl ?_
    refine j_get C d11_repair_16 fl11_79 0 rfl rfl ?_
    refine j_callVI4 (As := []) C d11_repair_19 mv11_298 (kX5_findLeastInsertions _ _ tc N h_repairer h_rules h_rules_codes h_input h_input_terminals h_repairer_weights h_repairer_words h_repairer_words_costs h_repairer_words_highs h_repairer_words_lows c_rules_codes c_rules_count c_input_terminals c_input_length c_repairer_weights c_repairer_words_costs c_repairer_words_highs c_repairer_words_lows) ⟨rfl, rfl, Nat.le_of_ble_eq_true rfl, Nat.le_of_ble_eq_true rfl⟩ rfl 5 rfl [5, 1, 2, 3, 4, 6, 7, 8, 9, 10] rfl rfl rfl (Nat.le_of_ble_eq_true rfl) (fun o1 o2 o3 => [(h_, .inr (11, [.ref h_rules, g_history, g_sets, g_setsBefore, g_table, g_failure, .ref h_input, g_parser, g_examples, .ref h_repairer])), (h_rules, .inr (6, [.ref h_rules_codes, .int c_rules_count])), (h_rules_codes, .inl (tc.1, 24, .inl c_rules_codes)), (h_input, .inr (3, [.ref h_input_terminals, .int c_input_length])), (h_input_terminals, .inl (tc.1, 40, .inl c_input_terminals)), (h_repairer, .inr (5, [.ref h_rules, .ref h_input, .ref h_repairer_weights, .ref h_repairer_words])), (h_repairer_weights, .inl (tc.1, 8, .inl c_repairer_weights)), (h_repairer_words, .inr (10, [.ref h_repairer_words_costs, .ref h_repairer_words_highs, .ref h_repairer_words_lows])), (h_repairer_words_costs, .inl (tc.1, 1469, .inl o1)), (h_repairer_words_highs, .inl (tc.2.1, 1469, .inr (.inl o2))), (h_repairer_words_lows, .inl (tc.2.1, 1469, .inr (.inl o3)))]) [(false, 0), (true, 1), (true, 2), (true, 3), (true, 4), (true, 0), (true, 5), (true, 6), (true, 7), (true, 8), (true, 9)] (fun _ => rfl) (by decide +kernel) (fun o4 o1 o2 o3 => ?_)
    exact j_iret C d11_repair_22 rfl
  · refine j_const C d11_repair_12 ?_
    exact j_iret C d11_repair_14 rfl

theorem d11_repairedTerminal_0 : jda cX11_repairedTerminal 0 0 1 := Or.inl ⟨0, by decide +kernel⟩
theorem d11_repairedTerminal_1 : jd cX11_repairedTerminal 1 (.getfield 79) 3 4 := by decide +kernel
theorem d11_repairedTerminal_4 : jd cX11_repairedTerminal 4 (.getfield 301) 3 7 := by decide +kernel
theorem d11_repairedTerminal_7 : jdk cX11_repairedTerminal 7 1468 10 := Or.inr (Or.inr ⟨1468, by decide +kernel⟩)
theorem d11_repairedTerminal_10 : jdi cX11_repairedTerminal 10 1 11 := Or.inl ⟨1, by decide +kernel⟩
theorem d11_repairedTerminal_11 : jd cX11_repairedTerminal 11 (.invokevirtual 189) 3 14 := by decide +kernel
theorem d11_repairedTerminal_14 : decode cX11_repairedTerminal 14 = .ok (.ireturn, 1) := by decide +kernel
set_option maxHeartbeats 4000000 in
set_option maxRecDepth 100000 in
theorem kX11_repairedTerminal (l : Launch) (D : va_G) (tc : jTC) (h_ h_repairer h_repairer_words h_repairer_words_costs h_repairer_words_highs h_repairer_words_lows : Nat) (g_rules g_history g_sets g_setsBefore g_table g_failure g_input g_parser g_examples g_repairer_rules g_repairer_input g_repairer_weights : Value) (c_repairer_words_costs : (Nat → Int32)) (c_repairer_words_highs : (Nat → Int64)) (c_repairer_words_lows : (Nat → Int64)) (p1 : Int32) : ctI0 l D tc yX11_repairedTerminal (Cond.code yX11_repairedTerminal cX11_repairedTerminal 2 (some .int) :: jtb) ({ frames := 3, cells := 0, slots := 0, locals := 68 } : Room) [.ref h_, .int p1] [(h_, .inr (11, [g_rules, g_history, g_sets, g_setsBefore, g_table, g_failure, g_input, g_parser, g_examples, .ref h_repairer])), (h_repairer, .inr (5, [g_repairer_rules, g_repairer_input, g_repairer_weights, .ref h_repairer_words])), (h_repairer_words, .inr (10, [.ref h_repairer_words_costs, .ref h_repairer_words_highs, .ref h_repairer_words_lows])), (h_repairer_words_costs, .inl (tc.1, 1469, .inl c_repairer_words_costs)), (h_repairer_words_highs, .inl (tc.2.1, 1469, .inr (.inl c_repairer_words_highs))), (h_repairer_words_lows, .inl (tc.2.1, 1469, .inr (.inl c_repairer_words_lows)))] (fX11_repairedTerminal c_repairer_words_costs c_repairer_words_highs c_repairer_words_lows p1) := by
  refine ctI0_of (lv0 := [(0, .ref h_), (1, .int p1)]) (by decide +kernel) (Nat.le_of_ble_eq_true rfl) rfl (fun X C => ?_)
  unfold fX11_repairedTerminal
  refine j_aload C d11_repairedTerminal_0 0 rfl ?_
  refine j_get C d11_repairedTerminal_1 fl11_79 0 rfl rfl ?_
  refine j_get C d11_repairedTerminal_4 fl11_301 1 rfl rfl ?_
  refine j_const C d11_repairedTerminal_7 ?_
  refine j_iload C d11_repairedTerminal_10 1 rfl ?_
  refine j_callVI0 (As := [.int 1468, .int p1]) C d11_repairedTerminal_11 mv11_189 (kX10_terminalOf _ _ tc 1469 h_repairer_words h_repairer_words_costs h_repairer_words_highs h_repairer_words_lows c_repairer_words_costs c_repairer_words_highs c_repairer_words_lows 1468 p1) ⟨rfl, rfl, Nat.le_of_ble_eq_true rfl, Nat.le_of_ble_eq_true rfl⟩ rfl 2 rfl [2, 3, 4, 5] rfl rfl rfl (Nat.le_of_ble_eq_true rfl) (fun x1 => ?_)
  exact j_iret0 C d11_repairedTerminal_14

theorem d11_failureLevels_0 : jda cX11_failureLevels 0 0 1 := Or.inl ⟨0, by decide +kernel⟩
theorem d11_failureLevels_1 : jd cX11_failureLevels 1 (.getfield 45) 3 4 := by decide +kernel
theorem d11_failureLevels_4 : jd cX11_failureLevels 4 (.getfield 302) 3 7 := by decide +kernel
theorem d11_failureLevels_7 : decode cX11_failureLevels 7 = .ok (.ireturn, 1) := by decide +kernel
set_option maxHeartbeats 4000000 in
set_option maxRecDepth 100000 in
theorem kX11_failureLevels (l : Launch) (D : va_G) (tc : jTC) (h_ h_failure : Nat) (g_rules g_history g_sets g_setsBefore g_table g_input g_parser g_examples g_repairer g_failure_codes g_failure_details : Value) (c_failure_levels : Int32) : ctI0 l D tc yX11_failureLevels (Cond.code yX11_failureLevels cX11_failureLevels 1 (some .int) :: jtb) ({ frames := 0, cells := 0, slots := 0, locals := 0 } : Room) [.ref h_] [(h_, .inr (11, [g_rules, g_history, g_sets, g_setsBefore, g_table, .ref h_failure, g_input, g_parser, g_examples, g_repairer])), (h_failure, .inr (1, [g_failure_codes, g_failure_details, .int c_failure_levels]))] (fX11_failureLevels c_failure_levels) := by
  refine ctI0_of (lv0 := [(0, .ref h_)]) (by decide +kernel) (Nat.le_of_ble_eq_true rfl) rfl (fun X C => ?_)
  unfold fX11_failureLevels
  refine j_aload C d11_failureLevels_0 0 rfl ?_
  refine j_get C d11_failureLevels_1 fl11_45 0 rfl rfl ?_
  refine j_get C d11_failureLevels_4 fl11_302 1 rfl rfl ?_
  exact j_iret0 C d11_failureLevels_7

theorem d11_failureCode_0 : jda cX11_failureCode 0 0 1 := Or.inl ⟨0, by decide +kernel⟩
theorem d11_failureCode_1 : jd cX11_failureCode 1 (.getfield 45) 3 4 := by decide +kernel
theorem d11_failureCode_4 : jdi cX11_failureCode 4 1 5 := Or.inl ⟨1, by decide +kernel⟩
theorem d11_failureCode_5 : jd cX11_failureCode 5 (.invokevirtual 305) 3 8 := by decide +kernel
theorem d11_failureCode_8 : jdb cX11_failureCode 8 (.ifCond .eq 15) 15 23 11 := by decide +kernel
theorem d11_failureCode_11 : jda cX11_failureCode 11 0 12 := Or.inl ⟨0, by decide +kernel⟩
theorem d11_failureCode_12 : jd cX11_failureCode 12 (.getfield 45) 3 15 := by decide +kernel
theorem d11_failureCode_15 : jd cX11_failureCode 15 (.getfield 306) 3 18 := by decide +kernel
theorem d11_failureCode_18 : jdi cX11_failureCode 18 1 19 := Or.inl ⟨1, by decide +kernel⟩
theorem d11_failureCode_19 : jd cX11_failureCode 19 (.iaload) 1 20 := by decide +kernel
theorem d11_failureCode_20 : jdb cX11_failureCode 20 (.goto 5) 5 25 23 := by decide +kernel
theorem d11_failureCode_23 : jdk cX11_failureCode 23 (-2) 25 := Or.inr (Or.inl ⟨(-2), by decide +kernel⟩)
theorem d11_failureCode_25 : decode cX11_failureCode 25 = .ok (.ireturn, 1) := by decide +kernel
set_option maxHeartbeats 4000000 in
set_option maxRecDepth 100000 in
theorem kX11_failureCode (l : Launch) (D : va_G) (tc : jTC) (h_ h_failure h_failure_codes : Nat) (g_rules g_history g_sets g_setsBefore g_table g_input g_parser g_examples g_repairer g_failure_details : Value) (c_failure_codes : (Nat → Int32)) (c_failure_levels : Int32) (p1 : Int32) : ctI0 l D tc yX11_failureCode (Cond.code yX11_failureCode cX11_failureCode 2 (some .int) :: jtb) ({ frames := 1, cells := 0, slots := 0, locals := 21 } : Room) [.ref h_, .int p1] [(h_, .inr (11, [g_rules, g_history, g_sets, g_setsBefore, g_table, .ref h_failure, g_input, g_parser, g_examples, g_repairer])), (h_failure, .inr (1, [.ref h_failure_codes, g_failure_details, .int c_failure_levels])), (h_failure_codes, .inl (tc.1, 3, .inl c_failure_codes))] (fX11_failureCode c_failure_codes c_failure_levels p1) := by
  refine ctI0_of (lv0 := [(0, .ref h_), (1, .int p1)]) (by decide +kernel) (Nat.le_of_ble_eq_true rfl) rfl (fun X C => ?_)
  unfold fX11_failureCode
  refine j_aload C d11_failureCode_0 0 rfl ?_
  refine j_get C d11_failureCode_1 fl11_45 0 rfl rfl ?_
  refine j_iload C d11_failureCode_4 1 rfl ?_
  refine j_callVI0 (As := [.int p1]) C d11_failureCode_5 mv11_305 (kX1_has _ _ tc h_failure (.ref h_failure_codes) g_failure_details c_failure_levels p1) ⟨rfl, rfl, Nat.le_of_ble_eq_true rfl, Nat.le_of_ble_eq_true rfl⟩ rfl 1 rfl [1] rfl rfl rfl (Nat.le_of_ble_eq_true rfl) (fun x1 => ?_)
  refine j_join 25 (fun v2 => [(h_, .inr (11, [g_rules, g_history, g_sets, g_setsBefore, g_table, .ref h_failure, g_input, g_parser, g_examples, g_repairer])), (h_failure, .inr (1, [.ref h_failure_codes, g_failure_details, .int c_failure_levels])), (h_failure_codes, .inl (tc.1, 3, .inl c_failure_codes))]) (fun v2 => []) (fun v2 => [.int v2]) (fun v2 => ?_) (fun k3 hk3 => ?_)
  · exact j_iret0 C d11_failureCode_25
  · refine j_if_eq C d11_failureCode_8 ?_ ?_
    · refine j_const C d11_failureCode_23 ?_
      exact j_sub [] rfl (hk3 _)
    · refine j_aload C d11_failureCode_11 0 rfl ?_
      refine j_get C d11_failureCode_12 fl11_45 0 rfl rfl ?_
      refine j_get C d11_failureCode_15 fl11_306 1 rfl rfl ?_
      refine j_iload C d11_failureCode_18 1 rfl ?_
      refine j_iald C d11_failureCode_19 2 rfl (fun x4 => ?_)
      refine j_goto C d11_failureCode_20 ?_
      exact j_sub [] rfl (hk3 _)

theorem d11_failureDetail_0 : jda cX11_failureDetail 0 0 1 := Or.inl ⟨0, by decide +kernel⟩
theorem d11_failureDetail_1 : jd cX11_failureDetail 1 (.getfield 45) 3 4 := by decide +kernel
theorem d11_failureDetail_4 : jdi cX11_failureDetail 4 1 5 := Or.inl ⟨1, by decide +kernel⟩
theorem d11_failureDetail_5 : jd cX11_failureDetail 5 (.invokevirtual 305) 3 8 := by decide +kernel
theorem d11_failureDetail_8 : jdb cX11_failureDetail 8 (.ifCond .eq 15) 15 23 11 := by decide +kernel
theorem d11_failureDetail_11 : jda cX11_failureDetail 11 0 12 := Or.inl ⟨0, by decide +kernel⟩
theorem d11_failureDetail_12 : jd cX11_failureDetail 12 (.getfield 45) 3 15 := by decide +kernel
theorem d11_failureDetail_15 : jd cX11_failureDetail 15 (.getfield 307) 3 18 := by decide +kernel
theorem d11_failureDetail_18 : jdi cX11_failureDetail 18 1 19 := Or.inl ⟨1, by decide +kernel⟩
theorem d11_failureDetail_19 : jd cX11_failureDetail 19 (.iaload) 1 20 := by decide +kernel
theorem d11_failureDetail_20 : jdb cX11_failureDetail 20 (.goto 5) 5 25 23 := by decide +kernel
theorem d11_failureDetail_23 : jdk cX11_failureDetail 23 (-2) 25 := Or.inr (Or.inl ⟨(-2), by decide +kernel⟩)
theorem d11_failureDetail_25 : decode cX11_failureDetail 25 = .ok (.ireturn, 1) := by decide +kernel
set_option maxHeartbeats 4000000 in
set_option maxRecDepth 100000 in
theorem kX11_failureDetail (l : Launch) (D : va_G) (tc : jTC) (h_ h_failure h_failure_details : Nat) (g_rules g_history g_sets g_setsBefore g_table g_input g_parser g_examples g_repairer g_failure_codes : Value) (c_failure_details : (Nat → Int32)) (c_failure_levels : Int32) (p1 : Int32) : ctI0 l D tc yX11_failureDetail (Cond.code yX11_failureDetail cX11_failureDetail 2 (some .int) :: jtb) ({ frames := 1, cells := 0, slots := 0, locals := 21 } : Room) [.ref h_, .int p1] [(h_, .inr (11, [g_rules, g_history, g_sets, g_setsBefore, g_table, .ref h_failure, g_input, g_parser, g_examples, g_repairer])), (h_failure, .inr (1, [g_failure_codes, .ref h_failure_details, .int c_failure_levels])), (h_failure_details, .inl (tc.1, 3, .inl c_failure_details))] (fX11_failureDetail c_failure_details c_failure_levels p1) := by
  refine ctI0_of (lv0 := [(0, .ref h_), (1, .int p1)]) (by decide +kernel) (Nat.le_of_ble_eq_true rfl) rfl (fun X C => ?_)
  unfold fX11_failureDetail
  refine j_aload C d11_failureDetail_0 0 rfl ?_
  refine j_get C d11_failureDetail_1 fl11_45 0 rfl rfl ?_
  refine j_iload C d11_failureDetail_4 1 rfl ?_
  refine j_callVI0 (As := [.int p1]) C d11_failureDetail_5 mv11_305 (kX1_has _ _ tc h_failure g_failure_codes (.ref h_failure_details) c_failure_levels p1) ⟨rfl, rfl, Nat.le_of_ble_eq_true rfl, Nat.le_of_ble_eq_true rfl⟩ rfl 1 rfl [1] rfl rfl rfl (Nat.le_of_ble_eq_true rfl) (fun x1 => ?_)
  refine j_join 25 (fun v2 => [(h_, .inr (11, [g_rules, g_history, g_sets, g_setsBefore, g_table, .ref h_failure, g_input, g_parser, g_examples, g_repairer])), (h_failure, .inr (1, [g_failure_codes, .ref h_failure_details, .int c_failure_levels])), (h_failure_details, .inl (tc.1, 3, .inl c_failure_details))]) (fun v2 => []) (fun v2 => [.int v2]) (fun v2 => ?_) (fun k3 hk3 => ?_)
  · exact j_iret0 C d11_failureDetail_25
  · refine j_if_eq C d11_failureDetail_8 ?_ ?_
    · refine j_const C d11_failureDetail_23 ?_
      exact j_sub [] rfl (hk3 _)
    · refine j_aload C d11_failureDetail_11 0 rfl ?_
      refine j_get C d11_failureDetail_12 fl11_45 0 rfl rfl ?_
      refine j_get C d11_failureDetail_15 fl11_307 1 rfl rfl ?_
      refine j_iload C d11_failureDetail_18 1 rfl ?_
      refine j_iald C d11_failureDetail_19 2 rfl (fun x4 => ?_)
      refine j_goto C d11_failureDetail_20 ?_
      exact j_sub [] rfl (hk3 _)

theorem d12_in_0 : jdi cX12_in 0 0 1 := Or.inl ⟨0, by decide +kernel⟩
theorem d12_in_1 : jdi cX12_in 1 1 2 := Or.inl ⟨1, by decide +kernel⟩
theorem d12_in_2 : jdb cX12_in 2 (.if_icmp .lt 12) 12 14 5 := by decide +kernel
theorem d12_in_5 : jdi cX12_in 5 0 6 := Or.inl ⟨0, by decide +kernel⟩
theorem d12_in_6 : jdi cX12_in 6 2 7 := Or.inl ⟨2, by decide +kernel⟩
theorem d12_in_7 : jdb cX12_in 7 (.if_icmp .gt 7) 7 14 10 := by decide +kernel
theorem d12_in_10 : jdk cX12_in 10 1 11 := Or.inl ⟨1, by decide +kernel⟩
theorem d12_in_11 : jdb cX12_in 11 (.goto 4) 4 15 14 := by decide +kernel
theorem d12_in_14 : jdk cX12_in 14 0 15 := Or.inl ⟨0, by decide +kernel⟩
theorem d12_in_15 : decode cX12_in 15 = .ok (.ireturn, 1) := by decide +kernel
set_option maxHeartbeats 4000000 in
set_option maxRecDepth 100000 in
theorem kX12_in (l : Launch) (D : va_G) (tc : jTC) (p0 : Int32) (p1 : Int32) (p2 : Int32) : ctI0 l D tc yX12_in (Cond.code yX12_in cX12_in 3 (some .boolean) :: jtb) ({ frames := 0, cells := 0, slots := 0, locals := 0 } : Room) [.int p0, .int p1, .int p2] [] (fX12_in p0 p1 p2) := by
  refine ctI0_of (lv0 := [(0, .int p0), (1, .int p1), (2, .int p2)]) (by decide +kernel) (Nat.le_of_ble_eq_true rfl) rfl (fun X C => ?_)
  unfold fX12_in
  refine j_iload C d12_in_0 0 rfl ?_
  refine j_iload C d12_in_1 1 rfl ?_
  refine j_join 15 (fun v1 => []) (fun v1 => []) (fun v1 => [.int v1]) (fun v1 => ?_) (fun k2 hk2 => ?_)
  · refine j_gz (fun hz => ?_)
    exact j_zret0 C hz d12_in_15
  · refine j_join 14 (fun v3 => []) (fun v3 => []) (fun v3 => []) (fun v3 => ?_) (fun k4 hk4 => ?_)
    · refine j_const C d12_in_14 ?_
      exact hk2 _
    · refine j_icmp_lt C d12_in_2 ?_ ?_
      · exact j_sub [] rfl (hk4 _)
      · refine j_iload C d12_in_5 0 rfl ?_
        refine j_iload C d12_in_6 2 rfl ?_
        refine j_icmp_gt C d12_in_7 ?_ ?_
        · exact j_sub [] rfl (hk4 _)
        · refine j_const C d12_in_10 ?_
          refine j_goto C d12_in_11 ?_
          exact j_sub [] rfl (hk2 _)

theorem d12_isName_0 : jdi cX12_isName 0 0 1 := Or.inl ⟨0, by decide +kernel⟩
theorem d12_isName_1 : jdk cX12_isName 1 0 2 := Or.inl ⟨0, by decide +kernel⟩
theorem d12_isName_2 : jdk cX12_isName 2 7 4 := Or.inr (Or.inl ⟨7, by decide +kernel⟩)
theorem d12_isName_4 : jd cX12_isName 4 (.invokestatic 119) 3 7 := by decide +kernel
theorem d12_isName_7 : decode cX12_isName 7 = .ok (.ireturn, 1) := by decide +kernel
set_option maxHeartbeats 4000000 in
set_option maxRecDepth 100000 in
theorem kX12_isName (l : Launch) (D : va_G) (tc : jTC) (p0 : Int32) : ctI0 l D tc yX12_isName (Cond.code yX12_isName cX12_isName 1 (some .boolean) :: jtb) ({ frames := 1, cells := 0, slots := 0, locals := 22 } : Room) [.int p0] [] (fX12_isName p0) := by
  refine ctI0_of (lv0 := [(0, .int p0)]) (by decide +kernel) (Nat.le_of_ble_eq_true rfl) rfl (fun X C => ?_)
  unfold fX12_isName
  refine j_iload C d12_isName_0 0 rfl ?_
  refine j_const C d12_isName_1 ?_
  refine j_const C d12_isName_2 ?_
  refine j_callSI0 (As := [.int p0, .int 0, .int 7]) C d12_isName_4 ms12_119 (kX12_in _ _ tc p0 0 7) ⟨rfl, rfl, Nat.le_of_ble_eq_true rfl, Nat.le_of_ble_eq_true rfl⟩ rfl [] rfl rfl rfl (Nat.le_of_ble_eq_true rfl) (fun x1 => ?_)
  refine j_gz (fun hz => ?_)
  exact j_zret0 C hz d12_isName_7

theorem d12_isSymbol_0 : jdi cX12_isSymbol 0 0 1 := Or.inl ⟨0, by decide +kernel⟩
theorem d12_isSymbol_1 : jdk cX12_isSymbol 1 0 2 := Or.inl ⟨0, by decide +kernel⟩
theorem d12_isSymbol_2 : jdk cX12_isSymbol 2 7 4 := Or.inr (Or.inl ⟨7, by decide +kernel⟩)
theorem d12_isSymbol_4 : jd cX12_isSymbol 4 (.invokestatic 119) 3 7 := by decide +kernel
theorem d12_isSymbol_7 : jdb cX12_isSymbol 7 (.ifCond .ne 14) 14 21 10 := by decide +kernel
theorem d12_isSymbol_10 : jdi cX12_isSymbol 10 0 11 := Or.inl ⟨0, by decide +kernel⟩
theorem d12_isSymbol_11 : jdk cX12_isSymbol 11 10 13 := Or.inr (Or.inl ⟨10, by decide +kernel⟩)
theorem d12_isSymbol_13 : jdk cX12_isSymbol 13 17 15 := Or.inr (Or.inl ⟨17, by decide +kernel⟩)
theorem d12_isSymbol_15 : jd cX12_isSymbol 15 (.invokestatic 119) 3 18 := by decide +kernel
theorem d12_isSymbol_18 : jdb cX12_isSymbol 18 (.ifCond .eq 7) 7 25 21 := by decide +kernel
theorem d12_isSymbol_21 : jdk cX12_isSymbol 21 1 22 := Or.inl ⟨1, by decide +kernel⟩
theorem d12_isSymbol_22 : jdb cX12_isSymbol 22 (.goto 4) 4 26 25 := by decide +kernel
theorem d12_isSymbol_25 : jdk cX12_isSymbol 25 0 26 := Or.inl ⟨0, by decide +kernel⟩
theorem d12_isSymbol_26 : decode cX12_isSymbol 26 = .ok (.ireturn, 1) := by decide +kernel
set_option maxHeartbeats 4000000 in
set_option maxRecDepth 100000 in
theorem kX12_isSymbol (l : Launch) (D : va_G) (tc : jTC) (p0 : Int32) : ctI0 l D tc yX12_isSymbol (Cond.code yX12_isSymbol cX12_isSymbol 1 (some .boolean) :: jtb) ({ frames := 1, cells := 0, slots := 0, locals := 22 } : Room) [.int p0] [] (fX12_isSymbol p0) := by
  refine ctI0_of (lv0 := [(0, .int p0)]) (by decide +kernel) (Nat.le_of_ble_eq_true rfl) rfl (fun X C => ?_)
  unfold fX12_isSymbol
  refine j_iload C d12_isSymbol_0 0 rfl ?_
  refine j_const C d12_isSymbol_1 ?_
  refine j_const C d12_isSymbol_2 ?_
  refine j_callSI0 (As := [.int p0, .int 0, .int 7]) C d12_isSymbol_4 ms12_119 (kX12_in _ _ tc p0 0 7) ⟨rfl, rfl, Nat.le_of_ble_eq_true rfl, Nat.le_of_ble_eq_true rfl⟩ rfl [] rfl rfl rfl (Nat.le_of_ble_eq_true rfl) (fun x1 => ?_)
  refine j_join 26 (fun v2 => []) (fun v2 => []) (fun v2 => [.int v2]) (fun v2 => ?_) (fun k3 hk3 => ?_)
  · refine j_gz (fun hz => ?_)
    exact j_zret0 C hz d12_isSymbol_26
  · refine j_join 21 (fun v4 => []) (fun v4 => []) (fun v4 => []) (fun v4 => ?_) (fun k5 hk5 => ?_)
    · refine j_const C d12_isSymbol_21 ?_
      refine j_goto C d12_isSymbol_22 ?_
      exact hk3 _
    · refine j_if_ne C d12_isSymbol_7 ?_ ?_
      · exact j_sub [] rfl (hk5 _)
      · refine j_iload C d12_isSymbol_10 0 rfl ?_
        refine j_const C d12_isSymbol_11 ?_
        refine j_const C d12_isSymbol_13 ?_
        refine j_callSI0 (As := [.int p0, .int 10, .int 17]) C d12_isSymbol_15 ms12_119 (kX12_in _ _ tc p0 10 17) ⟨rfl, rfl, Nat.le_of_ble_eq_true rfl, Nat.le_of_ble_eq_true rfl⟩ rfl [] rfl rfl rfl (Nat.le_of_ble_eq_true rfl) (fun x6 => ?_)
        refine j_if_eq C d12_isSymbol_18 ?_ ?_
        · refine j_const C d12_isSymbol_25 ?_
          exact j_sub [] rfl (hk3 _)
        · exact j_sub [] rfl (hk5 _)

theorem d12_isRule_0 : jdi cX12_isRule 0 1 1 := Or.inl ⟨1, by decide +kernel⟩
theorem d12_isRule_1 : jdk cX12_isRule 1 0 2 := Or.inl ⟨0, by decide +kernel⟩
theorem d12_isRule_2 : jda cX12_isRule 2 0 3 := Or.inl ⟨0, by decide +kernel⟩
theorem d12_isRule_3 : jd cX12_isRule 3 (.getfield 123) 3 6 := by decide +kernel
theorem d12_isRule_6 : jdk cX12_isRule 6 1 7 := Or.inl ⟨1, by decide +kernel⟩
theorem d12_isRule_7 : jd cX12_isRule 7 (.isub) 1 8 := by decide +kernel
theorem d12_isRule_8 : jd cX12_isRule 8 (.invokestatic 119) 3 11 := by decide +kernel
theorem d12_isRule_11 : decode cX12_isRule 11 = .ok (.ireturn, 1) := by decide +kernel
set_option maxHeartbeats 4000000 in
set_option maxRecDepth 100000 in
theorem kX12_isRule (l : Launch) (D : va_G) (tc : jTC) (h_ : Nat) (g_lefts g_sizes g_rights g_edits g_pastRules g_pastLefts g_pastSizes g_pastRights g_levels g_codes g_details g_asked g_isWorked g_empties g_firsts g_follows g_isKept g_keptEmpties g_keptFirsts g_keptFollows g_strings g_longs g_trial g_trialLong g_foundName g_foundToken g_foundP g_foundQ g_moved g_movedSizes g_synchronizing g_input g_inputLong g_stack g_stackParents g_top g_at g_steps g_traced g_traces g_nodes g_made g_nodeSymbols g_nodeParents g_errors g_errorAts g_errorKinds g_errorTops g_weights g_bests g_bestLongs g_partly g_partlyLongs g_repaired g_repairedLong : Value) (c_rules : Int32) (p1 : Int32) : ctI0 l D tc yX12_isRule (Cond.code yX12_isRule cX12_isRule 2 (some .boolean) :: jtb) ({ frames := 1, cells := 0, slots := 0, locals := 22 } : Room) [.ref h_, .int p1] [(h_, .inr (12, (.int c_rules :: g_lefts :: g_sizes :: g_rights :: g_edits :: g_pastRules :: g_pastLefts :: g_pastSizes :: g_pastRights :: g_levels :: g_codes :: g_details :: g_asked :: g_isWorked :: g_empties :: g_firsts :: g_follows :: g_isKept :: g_keptEmpties :: g_keptFirsts :: g_keptFollows :: g_strings :: g_longs :: g_trial :: g_trialLong :: g_foundName :: g_foundToken :: g_foundP :: g_foundQ :: g_moved :: g_movedSizes :: g_synchronizing :: g_input :: g_inputLong :: g_stack :: g_stackParents :: g_top :: g_at :: g_steps :: g_traced :: g_traces :: g_nodes :: g_made :: g_nodeSymbols :: g_nodeParents :: g_errors :: g_errorAts :: g_errorKinds :: g_errorTops :: g_weights :: g_bests :: g_bestLongs :: g_partly :: g_partlyLongs :: g_repaired :: g_repairedLong :: [])))] (fX12_isRule c_rules p1) := by
  refine ctI0_of (lv0 := [(0, .ref h_), (1, .int p1)]) (by decide +kernel) (Nat.le_of_ble_eq_true rfl) rfl (fun X C => ?_)
  unfold fX12_isRule
  refine j_iload C d12_isRule_0 1 rfl ?_
  refine j_const C d12_isRule_1 ?_
  refine j_aload C d12_isRule_2 0 rfl ?_
  refine j_get C d12_isRule_3 fl12_123 0 rfl rfl ?_
  refine j_const C d12_isRule_6 ?_
  refine j_isub C d12_isRule_7 ?_
  refine j_callSI0 (As := [.int p1, .int 0, .int (c_rules - (1 : Int32))]) C d12_isRule_8 ms12_119 (kX12_in _ _ tc p1 0 (c_rules - (1 : Int32))) ⟨rfl, rfl, Nat.le_of_ble_eq_true rfl, Nat.le_of_ble_eq_true rfl⟩ rfl [] rfl rfl rfl (Nat.le_of_ble_eq_true rfl) (fun x1 => ?_)
  refine j_gz (fun hz => ?_)
  exact j_zret0 C hz d12_isRule_11

theorem d12_symbol_0 : jda cX12_symbol 0 0 1 := Or.inl ⟨0, by decide +kernel⟩
theorem d12_symbol_1 : jd cX12_symbol 1 (.getfield 16) 3 4 := by decide +kernel
theorem d12_symbol_4 : jdk cX12_symbol 4 5 5 := Or.inl ⟨5, by decide +kernel⟩
theorem d12_symbol_5 : jdi cX12_symbol 5 1 6 := Or.inl ⟨1, by decide +kernel⟩
theorem d12_symbol_6 : jd cX12_symbol 6 (.imul) 1 7 := by decide +kernel
theorem d12_symbol_7 : jdi cX12_symbol 7 2 8 := Or.inl ⟨2, by decide +kernel⟩
theorem d12_symbol_8 : jd cX12_symbol 8 (.iadd) 1 9 := by decide +kernel
theorem d12_symbol_9 : jd cX12_symbol 9 (.iaload) 1 10 := by decide +kernel
theorem d12_symbol_10 : decode cX12_symbol 10 = .ok (.ireturn, 1) := by decide +kernel
set_option maxHeartbeats 4000000 in
set_option maxRecDepth 100000 in
theorem kX12_symbol (l : Launch) (D : va_G) (tc : jTC) (h_ h_rights : Nat) (g_rules g_lefts g_sizes g_edits g_pastRules g_pastLefts g_pastSizes g_pastRights g_levels g_codes g_details g_asked g_isWorked g_empties g_firsts g_follows g_isKept g_keptEmpties g_keptFirsts g_keptFollows g_strings g_longs g_trial g_trialLong g_foundName g_foundToken g_foundP g_foundQ g_moved g_movedSizes g_synchronizing g_input g_inputLong g_stack g_stackParents g_top g_at g_steps g_traced g_traces g_nodes g_made g_nodeSymbols g_nodeParents g_errors g_errorAts g_errorKinds g_errorTops g_weights g_bests g_bestLongs g_partly g_partlyLongs g_repaired g_repairedLong : Value) (c_rights : (Nat → Int32)) (p1 : Int32) (p2 : Int32) : ctI0 l D tc yX12_symbol (Cond.code yX12_symbol cX12_symbol 3 (some .int) :: jtb) ({ frames := 0, cells := 0, slots := 0, locals := 0 } : Room) [.ref h_, .int p1, .int p2] [(h_, .inr (12, (g_rules :: g_lefts :: g_sizes :: .ref h_rights :: g_edits :: g_pastRules :: g_pastLefts :: g_pastSizes :: g_pastRights :: g_levels :: g_codes :: g_details :: g_asked :: g_isWorked :: g_empties :: g_firsts :: g_follows :: g_isKept :: g_keptEmpties :: g_keptFirsts :: g_keptFollows :: g_strings :: g_longs :: g_trial :: g_trialLong :: g_foundName :: g_foundToken :: g_foundP :: g_foundQ :: g_moved :: g_movedSizes :: g_synchronizing :: g_input :: g_inputLong :: g_stack :: g_stackParents :: g_top :: g_at :: g_steps :: g_traced :: g_traces :: g_nodes :: g_made :: g_nodeSymbols :: g_nodeParents :: g_errors :: g_errorAts :: g_errorKinds :: g_errorTops :: g_weights :: g_bests :: g_bestLongs :: g_partly :: g_partlyLongs :: g_repaired :: g_repairedLong :: []))), (h_rights, .inl (tc.1, 120, .inl c_rights))] (fX12_symbol c_rights p1 p2) := by
  refine ctI0_of (lv0 := [(0, .ref h_), (1, .int p1), (2, .int p2)]) (by decide +kernel) (Nat.le_of_ble_eq_true rfl) rfl (fun X C => ?_)
  unfold fX12_symbol
  refine j_aload C d12_symbol_0 0 rfl ?_
  refine j_get C d12_symbol_1 fl12_16 0 rfl rfl ?_
  refine j_const C d12_symbol_4 ?_
  refine j_iload C d12_symbol_5 1 rfl ?_
  refine j_imul C d12_symbol_6 ?_
  refine j_iload C d12_symbol_7 2 rfl ?_
  refine j_iadd C d12_symbol_8 ?_
  refine j_iald C d12_symbol_9 1 rfl (fun x1 => ?_)
  exact j_iret0 C d12_symbol_10

theorem d12_lays_0 : jda cX12_lays 0 0 1 := Or.inl ⟨0, by decide +kernel⟩
theorem d12_lays_1 : jd cX12_lays 1 (.getfield 19) 3 4 := by decide +kernel
theorem d12_lays_4 : jdi cX12_lays 4 1 5 := Or.inl ⟨1, by decide +kernel⟩
theorem d12_lays_5 : jda cX12_lays 5 0 6 := Or.inl ⟨0, by decide +kernel⟩
theorem d12_lays_6 : jd cX12_lays 6 (.getfield 123) 3 9 := by decide +kernel
theorem d12_lays_9 : jd cX12_lays 9 (.iastore) 1 10 := by decide +kernel
theorem d12_lays_10 : jdk cX12_lays 10 0 11 := Or.inl ⟨0, by decide +kernel⟩
theorem d12_lays_11 : jds cX12_lays 11 2 12 := Or.inl ⟨2, by decide +kernel⟩
theorem d12_lays_12 : jdi cX12_lays 12 2 13 := Or.inl ⟨2, by decide +kernel⟩
theorem d12_lays_13 : jdk cX12_lays 13 24 15 := Or.inr (Or.inl ⟨24, by decide +kernel⟩)
theorem d12_lays_15 : jdb cX12_lays 15 (.if_icmp .ge 43) 43 58 18 := by decide +kernel
theorem d12_lays_18 : jda cX12_lays 18 0 19 := Or.inl ⟨0, by decide +kernel⟩
theorem d12_lays_19 : jd cX12_lays 19 (.getfield 22) 3 22 := by decide +kernel
theorem d12_lays_22 : jdk cX12_lays 22 24 24 := Or.inr (Or.inl ⟨24, by decide +kernel⟩)
theorem d12_lays_24 : jdi cX12_lays 24 1 25 := Or.inl ⟨1, by decide +kernel⟩
theorem d12_lays_25 : jd cX12_lays 25 (.imul) 1 26 := by decide +kernel
theorem d12_lays_26 : jdi cX12_lays 26 2 27 := Or.inl ⟨2, by decide +kernel⟩
theorem d12_lays_27 : jd cX12_lays 27 (.iadd) 1 28 := by decide +kernel
theorem d12_lays_28 : jda cX12_lays 28 0 29 := Or.inl ⟨0, by decide +kernel⟩
theorem d12_lays_29 : jd cX12_lays 29 (.getfield 9) 3 32 := by decide +kernel
theorem d12_lays_32 : jdi cX12_lays 32 2 33 := Or.inl ⟨2, by decide +kernel⟩
theorem d12_lays_33 : jd cX12_lays 33 (.iaload) 1 34 := by decide +kernel
theorem d12_lays_34 : jd cX12_lays 34 (.iastore) 1 35 := by decide +kernel
theorem d12_lays_35 : jda cX12_lays 35 0 36 := Or.inl ⟨0, by decide +kernel⟩
theorem d12_lays_36 : jd cX12_lays 36 (.getfield 25) 3 39 := by decide +kernel
theorem d12_lays_39 : jdk cX12_lays 39 24 41 := Or.inr (Or.inl ⟨24, by decide +kernel⟩)
theorem d12_lays_41 : jdi cX12_lays 41 1 42 := Or.inl ⟨1, by decide +kernel⟩
theorem d12_lays_42 : jd cX12_lays 42 (.imul) 1 43 := by decide +kernel
theorem d12_lays_43 : jdi cX12_lays 43 2 44 := Or.inl ⟨2, by decide +kernel⟩
theorem d12_lays_44 : jd cX12_lays 44 (.iadd) 1 45 := by decide +kernel
theorem d12_lays_45 : jda cX12_lays 45 0 46 := Or.inl ⟨0, by decide +kernel⟩
theorem d12_lays_46 : jd cX12_lays 46 (.getfield 13) 3 49 := by decide +kernel
theorem d12_lays_49 : jdi cX12_lays 49 2 50 := Or.inl ⟨2, by decide +kernel⟩
theorem d12_lays_50 : jd cX12_lays 50 (.iaload) 1 51 := by decide +kernel
theorem d12_lays_51 : jd cX12_lays 51 (.iastore) 1 52 := by decide +kernel
theorem d12_lays_52 : jd cX12_lays 52 (.iinc 2 1) 3 55 := by decide +kernel
theorem d12_lays_55 : jdb cX12_lays 55 (.goto (-43)) (-43) 12 58 := by decide +kernel
theorem d12_lays_58 : jdk cX12_lays 58 0 59 := Or.inl ⟨0, by decide +kernel⟩
theorem d12_lays_59 : jds cX12_lays 59 2 60 := Or.inl ⟨2, by decide +kernel⟩
theorem d12_lays_60 : jdi cX12_lays 60 2 61 := Or.inl ⟨2, by decide +kernel⟩
theorem d12_lays_61 : jdk cX12_lays 61 120 63 := Or.inr (Or.inl ⟨120, by decide +kernel⟩)
theorem d12_lays_63 : jdb cX12_lays 63 (.if_icmp .ge 26) 26 89 66 := by decide +kernel
theorem d12_lays_66 : jda cX12_lays 66 0 67 := Or.inl ⟨0, by decide +kernel⟩
theorem d12_lays_67 : jd cX12_lays 67 (.getfield 28) 3 70 := by decide +kernel
theorem d12_lays_70 : jdk cX12_lays 70 120 72 := Or.inr (Or.inl ⟨120, by decide +kernel⟩)
theorem d12_lays_72 : jdi cX12_lays 72 1 73 := Or.inl ⟨1, by decide +kernel⟩
theorem d12_lays_73 : jd cX12_lays 73 (.imul) 1 74 := by decide +kernel
theorem d12_lays_74 : jdi cX12_lays 74 2 75 := Or.inl ⟨2, by decide +kernel⟩
theorem d12_lays_75 : jd cX12_lays 75 (.iadd) 1 76 := by decide +kernel
theorem d12_lays_76 : jda cX12_lays 76 0 77 := Or.inl ⟨0, by decide +kernel⟩
theorem d12_lays_77 : jd cX12_lays 77 (.getfield 16) 3 80 := by decide +kernel
theorem d12_lays_80 : jdi cX12_lays 80 2 81 := Or.inl ⟨2, by decide +kernel⟩
theorem d12_lays_81 : jd cX12_lays 81 (.iaload) 1 82 := by decide +kernel
theorem d12_lays_82 : jd cX12_lays 82 (.iastore) 1 83 := by decide +kernel
theorem d12_lays_83 : jd cX12_lays 83 (.iinc 2 1) 3 86 := by decide +kernel
theorem d12_lays_86 : jdb cX12_lays 86 (.goto (-26)) (-26) 60 89 := by decide +kernel
theorem d12_lays_89 : decode cX12_lays 89 = .ok (.return_, 1) := by decide +kernel
set_option maxHeartbeats 4000000 in
set_option maxRecDepth 100000 in
theorem wX12_lays_60 {X : jC} {tc : jTC} (C : jx X cX12_lays 3 RX12 none tc ({ frames := 0, cells := 0, slots := 0, locals := 0 } : Room)) (h_ h_lefts h_sizes h_rights h_pastRules h_pastLefts h_pastSizes h_pastRights : Nat) (g_edits g_levels g_codes g_details g_asked g_isWorked g_empties g_firsts g_follows g_isKept g_keptEmpties g_keptFirsts g_keptFollows g_strings g_longs g_trial g_trialLong g_foundName g_foundToken g_foundP g_foundQ g_moved g_movedSizes g_synchronizing g_input g_inputLong g_stack g_stackParents g_top g_at g_steps g_traced g_traces g_nodes g_made g_nodeSymbols g_nodeParents g_errors g_errorAts g_errorKinds g_errorTops g_weights g_bests g_bestLongs g_partly g_partlyLongs g_repaired g_repairedLong : Value) (p1 : Int32) (c_rules : Int32) (c_lefts : (Nat → Int32)) (c_sizes : (Nat → Int32)) (c_rights : (Nat → Int32)) (f1 : (Nat → Int32)) (v2 : (Nat → Int32)) (v3 : (Nat → Int32)) (k5 : ((Nat → Int32) → Option ((Nat → Int32) × (Nat → Int32) × (Nat → Int32) × (Nat → Int32)))) (hk5 : ∀ (v12 : (Nat → Int32)), jo X 3 (0, 0) (jQV X (fun (u : (Nat → Int32) × (Nat → Int32) × (Nat → Int32) × (Nat → Int32)) => [(h_, .inr (12, (.int c_rules :: .ref h_lefts :: .ref h_sizes :: .ref h_rights :: g_edits :: .ref h_pastRules :: .ref h_pastLefts :: .ref h_pastSizes :: .ref h_pastRights :: g_levels :: g_codes :: g_details :: g_asked :: g_isWorked :: g_empties :: g_firsts :: g_follows :: g_isKept :: g_keptEmpties :: g_keptFirsts :: g_keptFollows :: g_strings :: g_longs :: g_trial :: g_trialLong :: g_foundName :: g_foundToken :: g_foundP :: g_foundQ :: g_moved :: g_movedSizes :: g_synchronizing :: g_input :: g_inputLong :: g_stack :: g_stackParents :: g_top :: g_at :: g_steps :: g_traced :: g_traces :: g_nodes :: g_made :: g_nodeSymbols :: g_nodeParents :: g_errors :: g_errorAts :: g_errorKinds :: g_errorTops :: g_weights :: g_bests :: g_bestLongs :: g_partly :: g_partlyLongs :: g_repaired :: g_repairedLong :: []))), (h_lefts, .inl (tc.1, 24, .inl c_lefts)), (h_sizes, .inl (tc.1, 24, .inl c_sizes)), (h_rights, .inl (tc.1, 120, .inl c_rights)), (h_pastRules, .inl (tc.1, 10, .inl u.1)), (h_pastLefts, .inl (tc.1, 240, .inl u.2.1)), (h_pastSizes, .inl (tc.1, 240, .inl u.2.2.1)), (h_pastRights, .inl (tc.1, 1200, .inl u.2.2.2))])) (k5 v12) [(h_, .inr (12, (.int c_rules :: .ref h_lefts :: .ref h_sizes :: .ref h_rights :: g_edits :: .ref h_pastRules :: .ref h_pastLefts :: .ref h_pastSizes :: .ref h_pastRights :: g_levels :: g_codes :: g_details :: g_asked :: g_isWorked :: g_empties :: g_firsts :: g_follows :: g_isKept :: g_keptEmpties :: g_keptFirsts :: g_keptFollows :: g_strings :: g_longs :: g_trial :: g_trialLong :: g_foundName :: g_foundToken :: g_foundP :: g_foundQ :: g_moved :: g_movedSizes :: g_synchronizing :: g_input :: g_inputLong :: g_stack :: g_stackParents :: g_top :: g_at :: g_steps :: g_traced :: g_traces :: g_nodes :: g_made :: g_nodeSymbols :: g_nodeParents :: g_errors :: g_errorAts :: g_errorKinds :: g_errorTops :: g_weights :: g_bests :: g_bestLongs :: g_partly :: g_partlyLongs :: g_repaired :: g_repairedLong :: []))), (h_lefts, .inl (tc.1, 24, .inl c_lefts)), (h_sizes, .inl (tc.1, 24, .inl c_sizes)), (h_rights, .inl (tc.1, 120, .inl c_rights)), (h_pastRules, .inl (tc.1, 10, .inl f1)), (h_pastLefts, .inl (tc.1, 240, .inl v2)), (h_pastSizes, .inl (tc.1, 240, .inl v3)), (h_pastRights, .inl (tc.1, 1200, .inl v12))] 89 [] []) (rc8 : Int32 → (Nat → Int32) → Option ((Nat → Int32) × (Nat → Int32) × (Nat → Int32) × (Nat → Int32))) (hrc8 : ∀ (v6 : Int32) (v7 : (Nat → Int32)), jo X 3 (0, 0) (jQV X (fun (u : (Nat → Int32) × (Nat → Int32) × (Nat → Int32) × (Nat → Int32)) => [(h_, .inr (12, (.int c_rules :: .ref h_lefts :: .ref h_sizes :: .ref h_rights :: g_edits :: .ref h_pastRules :: .ref h_pastLefts :: .ref h_pastSizes :: .ref h_pastRights :: g_levels :: g_codes :: g_details :: g_asked :: g_isWorked :: g_empties :: g_firsts :: g_follows :: g_isKept :: g_keptEmpties :: g_keptFirsts :: g_keptFollows :: g_strings :: g_longs :: g_trial :: g_trialLong :: g_foundName :: g_foundToken :: g_foundP :: g_foundQ :: g_moved :: g_movedSizes :: g_synchronizing :: g_input :: g_inputLong :: g_stack :: g_stackParents :: g_top :: g_at :: g_steps :: g_traced :: g_traces :: g_nodes :: g_made :: g_nodeSymbols :: g_nodeParents :: g_errors :: g_errorAts :: g_errorKinds :: g_errorTops :: g_weights :: g_bests :: g_bestLongs :: g_partly :: g_partlyLongs :: g_repaired :: g_repairedLong :: []))), (h_lefts, .inl (tc.1, 24, .inl c_lefts)), (h_sizes, .inl (tc.1, 24, .inl c_sizes)), (h_rights, .inl (tc.1, 120, .inl c_rights)), (h_pastRules, .inl (tc.1, 10, .inl u.1)), (h_pastLefts, .inl (tc.1, 240, .inl u.2.1)), (h_pastSizes, .inl (tc.1, 240, .inl u.2.2.1)), (h_pastRights, .inl (tc.1, 1200, .inl u.2.2.2))])) (rc8 v6 v7) [(h_, .inr (12, (.int c_rules :: .ref h_lefts :: .ref h_sizes :: .ref h_rights :: g_edits :: .ref h_pastRules :: .ref h_pastLefts :: .ref h_pastSizes :: .ref h_pastRights :: g_levels :: g_codes :: g_details :: g_asked :: g_isWorked :: g_empties :: g_firsts :: g_follows :: g_isKept :: g_keptEmpties :: g_keptFirsts :: g_keptFollows :: g_strings :: g_longs :: g_trial :: g_trialLong :: g_foundName :: g_foundToken :: g_foundP :: g_foundQ :: g_moved :: g_movedSizes :: g_synchronizing :: g_input :: g_inputLong :: g_stack :: g_stackParents :: g_top :: g_at :: g_steps :: g_traced :: g_traces :: g_nodes :: g_made :: g_nodeSymbols :: g_nodeParents :: g_errors :: g_errorAts :: g_errorKinds :: g_errorTops :: g_weights :: g_bests :: g_bestLongs :: g_partly :: g_partlyLongs :: g_repaired :: g_repairedLong :: []))), (h_lefts, .inl (tc.1, 24, .inl c_lefts)), (h_sizes, .inl (tc.1, 24, .inl c_sizes)), (h_rights, .inl (tc.1, 120, .inl c_rights)), (h_pastRules, .inl (tc.1, 10, .inl f1)), (h_pastLefts, .inl (tc.1, 240, .inl v2)), (h_pastSizes, .inl (tc.1, 240, .inl v3)), (h_pastRights, .inl (tc.1, 1200, .inl v7))] 60 [(0, .ref h_), (1, .int p1), (2, .int v6)] []) (v6 : Int32) (v7 : (Nat → Int32)) : jo X 3 (0, 0) (jQV X (fun (u : (Nat → Int32) × (Nat → Int32) × (Nat → Int32) × (Nat → Int32)) => [(h_, .inr (12, (.int c_rules :: .ref h_lefts :: .ref h_sizes :: .ref h_rights :: g_edits :: .ref h_pastRules :: .ref h_pastLefts :: .ref h_pastSizes :: .ref h_pastRights :: g_levels :: g_codes :: g_details :: g_asked :: g_isWorked :: g_empties :: g_firsts :: g_follows :: g_isKept :: g_keptEmpties :: g_keptFirsts :: g_keptFollows :: g_strings :: g_longs :: g_trial :: g_trialLong :: g_foundName :: g_foundToken :: g_foundP :: g_foundQ :: g_moved :: g_movedSizes :: g_synchronizing :: g_input :: g_inputLong :: g_stack :: g_stackParents :: g_top :: g_at :: g_steps :: g_traced :: g_traces :: g_nodes :: g_made :: g_nodeSymbols :: g_nodeParents :: g_errors :: g_errorAts :: g_errorKinds :: g_errorTops :: g_weights :: g_bests :: g_bestLongs :: g_partly :: g_partlyLongs :: g_repaired :: g_repairedLong :: []))), (h_lefts, .inl (tc.1, 24, .inl c_lefts)), (h_sizes, .inl (tc.1, 24, .inl c_sizes)), (h_rights, .inl (tc.1, 120, .inl c_rights)), (h_pastRules, .inl (tc.1, 10, .inl u.1)), (h_pastLefts, .inl (tc.1, 240, .inl u.2.1)), (h_pastSizes, .inl (tc.1, 240, .inl u.2.2.1)), (h_pastRights, .inl (tc.1, 1200, .inl u.2.2.2))])) (bX12_lays_60 p1 c_rights k5 rc8 v6 v7) [(h_, .inr (12, (.int c_rules :: .ref h_lefts :: .ref h_sizes :: .ref h_rights :: g_edits :: .ref h_pastRules :: .ref h_pastLefts :: .ref h_pastSizes :: .ref h_pastRights :: g_levels :: g_codes :: g_details :: g_asked :: g_isWorked :: g_empties :: g_firsts :: g_follows :: g_isKept :: g_keptEmpties :: g_keptFirsts :: g_keptFollows :: g_strings :: g_longs :: g_trial :: g_trialLong :: g_foundName :: g_foundToken :: g_foundP :: g_foundQ :: g_moved :: g_movedSizes :: g_synchronizing :: g_input :: g_inputLong :: g_stack :: g_stackParents :: g_top :: g_at :: g_steps :: g_traced :: g_traces :: g_nodes :: g_made :: g_nodeSymbols :: g_nodeParents :: g_errors :: g_errorAts :: g_errorKinds :: g_errorTops :: g_weights :: g_bests :: g_bestLongs :: g_partly :: g_partlyLongs :: g_repaired :: g_repairedLong :: []))), (h_lefts, .inl (tc.1, 24, .inl c_lefts)), (h_sizes, .inl (tc.1, 24, .inl c_sizes)), (h_rights, .inl (tc.1, 120, .inl c_rights)), (h_pastRules, .inl (tc.1, 10, .inl f1)), (h_pastLefts, .inl (tc.1, 240, .inl v2)), (h_pastSizes, .inl (tc.1, 240, .inl v3)), (h_pastRights, .inl (tc.1, 1200, .inl v7))] 60 [(0, .ref h_), (1, .int p1), (2, .int v6)] [] := by
  unfold bX12_lays_60
  refine j_iload C d12_lays_60 2 rfl ?_
  refine j_const C d12_lays_61 ?_
  refine j_icmp_ge C d12_lays_63 ?_ ?_
  · exact j_sub [] rfl (hk5 _)
  · refine j_aload C d12_lays_66 0 rfl ?_
    refine j_get C d12_lays_67 fl12_28 0 rfl rfl ?_
    refine j_const C d12_lays_70 ?_
    refine j_iload C d12_lays_72 1 rfl ?_
    refine j_imul C d12_lays_73 ?_
    refine j_iload C d12_lays_74 2 rfl ?_
    refine j_iadd C d12_lays_75 ?_
    refine j_aload C d12_lays_76 0 rfl ?_
    refine j_get C d12_lays_77 fl12_16 0 rfl rfl ?_
    refine j_iload C d12_lays_80 2 rfl ?_
    refine j_iald C d12_lays_81 3 rfl (fun x9 => ?_)
    refine j_iast C (fun f10 => [(h_, .inr (12, (.int c_rules :: .ref h_lefts :: .ref h_sizes :: .ref h_rights :: g_edits :: .ref h_pastRules :: .ref h_pastLefts :: .ref h_pastSizes :: .ref h_pastRights :: g_levels :: g_codes :: g_details :: g_asked :: g_isWorked :: g_empties :: g_firsts :: g_follows :: g_isKept :: g_keptEmpties :: g_keptFirsts :: g_keptFollows :: g_strings :: g_longs :: g_trial :: g_trialLong :: g_foundName :: g_foundToken :: g_foundP :: g_foundQ :: g_moved :: g_movedSizes :: g_synchronizing :: g_input :: g_inputLong :: g_stack :: g_stackParents :: g_top :: g_at :: g_steps :: g_traced :: g_traces :: g_nodes :: g_made :: g_nodeSymbols :: g_nodeParents :: g_errors :: g_errorAts :: g_errorKinds :: g_errorTops :: g_weights :: g_bests :: g_bestLongs :: g_partly :: g_partlyLongs :: g_repaired :: g_repairedLong :: []))), (h_lefts, .inl (tc.1, 24, .inl c_lefts)), (h_sizes, .inl (tc.1, 24, .inl c_sizes)), (h_rights, .inl (tc.1, 120, .inl c_rights)), (h_pastRules, .inl (tc.1, 10, .inl f1)), (h_pastLefts, .inl (tc.1, 240, .inl v2)), (h_pastSizes, .inl (tc.1, 240, .inl v3)), (h_pastRights, .inl (tc.1, 1200, .inl f10))]) d12_lays_82 7 rfl (fun _ => rfl) (fun f10 => ?_)
    refine j_iincN C (fun x11 => [(2, .int x11), (0, .ref h_), (1, .int p1)]) d12_lays_83 2 rfl (by decide +kernel) (by decide) (fun _ => rfl) (fun x11 => ?_)
    refine j_goto C d12_lays_86 ?_
    exact j_sub [1, 2, 0] rfl (hrc8 _ _)

set_option maxHeartbeats 4000000 in
set_option maxRecDepth 100000 in
theorem wX12_lays_12 {X : jC} {tc : jTC} (C : jx X cX12_lays 3 RX12 none tc ({ frames := 0, cells := 0, slots := 0, locals := 0 } : Room)) (h_ h_lefts h_sizes h_rights h_pastRules h_pastLefts h_pastSizes h_pastRights : Nat) (g_edits g_levels g_codes g_details g_asked g_isWorked g_empties g_firsts g_follows g_isKept g_keptEmpties g_keptFirsts g_keptFollows g_strings g_longs g_trial g_trialLong g_foundName g_foundToken g_foundP g_foundQ g_moved g_movedSizes g_synchronizing g_input g_inputLong g_stack g_stackParents g_top g_at g_steps g_traced g_traces g_nodes g_made g_nodeSymbols g_nodeParents g_errors g_errorAts g_errorKinds g_errorTops g_weights g_bests g_bestLongs g_partly g_partlyLongs g_repaired g_repairedLong : Value) (p1 : Int32) (c_rules : Int32) (c_lefts : (Nat → Int32)) (c_sizes : (Nat → Int32)) (c_rights : (Nat → Int32)) (c_pastRights : (Nat → Int32)) (f1 : (Nat → Int32)) (k13 : ((Nat → Int32) → (Nat → Int32) → Option ((Nat → Int32) × (Nat → Int32) × (Nat → Int32) × (Nat → Int32)))) (hk13 : ∀ (v23 : (Nat → Int32)) (v24 : (Nat → Int32)), jo X 3 (0, 0) (jQV X (fun (u : (Nat → Int32) × (Nat → Int32) × (Nat → Int32) × (Nat → Int32)) => [(h_, .inr (12, (.int c_rules :: .ref h_lefts :: .ref h_sizes :: .ref h_rights :: g_edits :: .ref h_pastRules :: .ref h_pastLefts :: .ref h_pastSizes :: .ref h_pastRights :: g_levels :: g_codes :: g_details :: g_asked :: g_isWorked :: g_empties :: g_firsts :: g_follows :: g_isKept :: g_keptEmpties :: g_keptFirsts :: g_keptFollows :: g_strings :: g_longs :: g_trial :: g_trialLong :: g_foundName :: g_foundToken :: g_foundP :: g_foundQ :: g_moved :: g_movedSizes :: g_synchronizing :: g_input :: g_inputLong :: g_stack :: g_stackParents :: g_top :: g_at :: g_steps :: g_traced :: g_traces :: g_nodes :: g_made :: g_nodeSymbols :: g_nodeParents :: g_errors :: g_errorAts :: g_errorKinds :: g_errorTops :: g_weights :: g_bests :: g_bestLongs :: g_partly :: g_partlyLongs :: g_repaired :: g_repairedLong :: []))), (h_lefts, .inl (tc.1, 24, .inl c_lefts)), (h_sizes, .inl (tc.1, 24, .inl c_sizes)), (h_rights, .inl (tc.1, 120, .inl c_rights)), (h_pastRules, .inl (tc.1, 10, .inl u.1)), (h_pastLefts, .inl (tc.1, 240, .inl u.2.1)), (h_pastSizes, .inl (tc.1, 240, .inl u.2.2.1)), (h_pastRights, .inl (tc.1, 1200, .inl u.2.2.2))])) (k13 v23 v24) [(h_, .inr (12, (.int c_rules :: .ref h_lefts :: .ref h_sizes :: .ref h_rights :: g_edits :: .ref h_pastRules :: .ref h_pastLefts :: .ref h_pastSizes :: .ref h_pastRights :: g_levels :: g_codes :: g_details :: g_asked :: g_isWorked :: g_empties :: g_firsts :: g_follows :: g_isKept :: g_keptEmpties :: g_keptFirsts :: g_keptFollows :: g_strings :: g_longs :: g_trial :: g_trialLong :: g_foundName :: g_foundToken :: g_foundP :: g_foundQ :: g_moved :: g_movedSizes :: g_synchronizing :: g_input :: g_inputLong :: g_stack :: g_stackParents :: g_top :: g_at :: g_steps :: g_traced :: g_traces :: g_nodes :: g_made :: g_nodeSymbols :: g_nodeParents :: g_errors :: g_errorAts :: g_errorKinds :: g_errorTops :: g_weights :: g_bests :: g_bestLongs :: g_partly :: g_partlyLongs :: g_repaired :: g_repairedLong :: []))), (h_lefts, .inl (tc.1, 24, .inl c_lefts)), (h_sizes, .inl (tc.1, 24, .inl c_sizes)), (h_rights, .inl (tc.1, 120, .inl c_rights)), (h_pastRules, .inl (tc.1, 10, .inl f1)), (h_pastLefts, .inl (tc.1, 240, .inl v23)), (h_pastSizes, .inl (tc.1, 240, .inl v24)), (h_pastRights, .inl (tc.1, 1200, .inl c_pastRights))] 58 [(0, .ref h_), (1, .int p1)] []) (rc17 : Int32 → (Nat → Int32) → (Nat → Int32) → Option ((Nat → Int32) × (Nat → Int32) × (Nat → Int32) × (Nat → Int32))) (hrc17 : ∀ (v14 : Int32) (v15 : (Nat → Int32)) (v16 : (Nat → Int32)), jo X 3 (0, 0) (jQV X (fun (u : (Nat → Int32) × (Nat → Int32) × (Nat → Int32) × (Nat → Int32)) => [(h_, .inr (12, (.int c_rules :: .ref h_lefts :: .ref h_sizes :: .ref h_rights :: g_edits :: .ref h_pastRules :: .ref h_pastLefts :: .ref h_pastSizes :: .ref h_pastRights :: g_levels :: g_codes :: g_details :: g_asked :: g_isWorked :: g_empties :: g_firsts :: g_follows :: g_isKept :: g_keptEmpties :: g_keptFirsts :: g_keptFollows :: g_strings :: g_longs :: g_trial :: g_trialLong :: g_foundName :: g_foundToken :: g_foundP :: g_foundQ :: g_moved :: g_movedSizes :: g_synchronizing :: g_input :: g_inputLong :: g_stack :: g_stackParents :: g_top :: g_at :: g_steps :: g_traced :: g_traces :: g_nodes :: g_made :: g_nodeSymbols :: g_nodeParents :: g_errors :: g_errorAts :: g_errorKinds :: g_errorTops :: g_weights :: g_bests :: g_bestLongs :: g_partly :: g_partlyLongs :: g_repaired :: g_repairedLong :: []))), (h_lefts, .inl (tc.1, 24, .inl c_lefts)), (h_sizes, .inl (tc.1, 24, .inl c_sizes)), (h_rights, .inl (tc.1, 120, .inl c_rights)), (h_pastRules, .inl (tc.1, 10, .inl u.1)), (h_pastLefts, .inl (tc.1, 240, .inl u.2.1)), (h_pastSizes, .inl (tc.1, 240, .inl u.2.2.1)), (h_pastRights, .inl (tc.1, 1200, .inl u.2.2.2))])) (rc17 v14 v15 v16) [(h_, .inr (12, (.int c_rules :: .ref h_lefts :: .ref h_sizes :: .ref h_rights :: g_edits :: .ref h_pastRules :: .ref h_pastLefts :: .ref h_pastSizes :: .ref h_pastRights :: g_levels :: g_codes :: g_details :: g_asked :: g_isWorked :: g_empties :: g_firsts :: g_follows :: g_isKept :: g_keptEmpties :: g_keptFirsts :: g_keptFollows :: g_strings :: g_longs :: g_trial :: g_trialLong :: g_foundName :: g_foundToken :: g_foundP :: g_foundQ :: g_moved :: g_movedSizes :: g_synchronizing :: g_input :: g_inputLong :: g_stack :: g_stackParents :: g_top :: g_at :: g_steps :: g_traced :: g_traces :: g_nodes :: g_made :: g_nodeSymbols :: g_nodeParents :: g_errors :: g_errorAts :: g_errorKinds :: g_errorTops :: g_weights :: g_bests :: g_bestLongs :: g_partly :: g_partlyLongs :: g_repaired :: g_repairedLong :: []))), (h_lefts, .inl (tc.1, 24, .inl c_lefts)), (h_sizes, .inl (tc.1, 24, .inl c_sizes)), (h_rights, .inl (tc.1, 120, .inl c_rights)), (h_pastRules, .inl (tc.1, 10, .inl f1)), (h_pastLefts, .inl (tc.1, 240, .inl v15)), (h_pastSizes, .inl (tc.1, 240, .inl v16)), (h_pastRights, .inl (tc.1, 1200, .inl c_pastRights))] 12 [(0, .ref h_), (1, .int p1), (2, .int v14)] []) (v14 : Int32) (v15 : (Nat → Int32)) (v16 : (Nat → Int32)) : jo X 3 (0, 0) (jQV X (fun (u : (Nat → Int32) × (Nat → Int32) × (Nat → Int32) × (Nat → Int32)) => [(h_, .inr (12, (.int c_rules :: .ref h_lefts :: .ref h_sizes :: .ref h_rights :: g_edits :: .ref h_pastRules :: .ref h_pastLefts :: .ref h_pastSizes :: .ref h_pastRights :: g_levels :: g_codes :: g_details :: g_asked :: g_isWorked :: g_empties :: g_firsts :: g_follows :: g_isKept :: g_keptEmpties :: g_keptFirsts :: g_keptFollows :: g_strings :: g_longs :: g_trial :: g_trialLong :: g_foundName :: g_foundToken :: g_foundP :: g_foundQ :: g_moved :: g_movedSizes :: g_synchronizing :: g_input :: g_inputLong :: g_stack :: g_stackParents :: g_top :: g_at :: g_steps :: g_traced :: g_traces :: g_nodes :: g_made :: g_nodeSymbols :: g_nodeParents :: g_errors :: g_errorAts :: g_errorKinds :: g_errorTops :: g_weights :: g_bests :: g_bestLongs :: g_partly :: g_partlyLongs :: g_repaired :: g_repairedLong :: []))), (h_lefts, .inl (tc.1, 24, .inl c_lefts)), (h_sizes, .inl (tc.1, 24, .inl c_sizes)), (h_rights, .inl (tc.1, 120, .inl c_rights)), (h_pastRules, .inl (tc.1, 10, .inl u.1)), (h_pastLefts, .inl (tc.1, 240, .inl u.2.1)), (h_pastSizes, .inl (tc.1, 240, .inl u.2.2.1)), (h_pastRights, .inl (tc.1, 1200, .inl u.2.2.2))])) (bX12_lays_12 p1 c_lefts c_sizes k13 rc17 v14 v15 v16) [(h_, .inr (12, (.int c_rules :: .ref h_lefts :: .ref h_sizes :: .ref h_rights :: g_edits :: .ref h_pastRules :: .ref h_pastLefts :: .ref h_pastSizes :: .ref h_pastRights :: g_levels :: g_codes :: g_details :: g_asked :: g_isWorked :: g_empties :: g_firsts :: g_follows :: g_isKept :: g_keptEmpties :: g_keptFirsts :: g_keptFollows :: g_strings :: g_longs :: g_trial :: g_trialLong :: g_foundName :: g_foundToken :: g_foundP :: g_foundQ :: g_moved :: g_movedSizes :: g_synchronizing :: g_input :: g_inputLong :: g_stack :: g_stackParents :: g_top :: g_at :: g_steps :: g_traced :: g_traces :: g_nodes :: g_made :: g_nodeSymbols :: g_nodeParents :: g_errors :: g_errorAts :: g_errorKinds :: g_errorTops :: g_weights :: g_bests :: g_bestLongs :: g_partly :: g_partlyLongs :: g_repaired :: g_repairedLong :: []))), (h_lefts, .inl (tc.1, 24, .inl c_lefts)), (h_sizes, .inl (tc.1, 24, .inl c_sizes)), (h_rights, .inl (tc.1, 120, .inl c_rights)), (h_pastRules, .inl (tc.1, 10, .inl f1)), (h_pastLefts, .inl (tc.1, 240, .inl v15)), (h_pastSizes, .inl (tc.1, 240, .inl v16)), (h_pastRights, .inl (tc.1, 1200, .inl c_pastRights))] 12 [(0, .ref h_), (1, .int p1), (2, .int v14)] [] := by
  unfold bX12_lays_12
  refine j_iload C d12_lays_12 2 rfl ?_
  refine j_const C d12_lays_13 ?_
  refine j_icmp_ge C d12_lays_15 ?_ ?_
  · exact j_sub [0, 1] rfl (hk13 _ _)
  · refine j_aload C d12_lays_18 0 rfl ?_
    refine j_get C d12_lays_19 fl12_22 0 rfl rfl ?_
    refine j_const C d12_lays_22 ?_
    refine j_iload C d12_lays_24 1 rfl ?_
    refine j_imul C d12_lays_25 ?_
    refine j_iload C d12_lays_26 2 rfl ?_
    refine j_iadd C d12_lays_27 ?_
    refine j_aload C d12_lays_28 0 rfl ?_
    refine j_get C d12_lays_29 fl12_9 0 rfl rfl ?_
    refine j_iload C d12_lays_32 2 rfl ?_
    refine j_iald C d12_lays_33 1 rfl (fun x18 => ?_)
    refine j_iast C (fun f19 => [(h_, .inr (12, (.int c_rules :: .ref h_lefts :: .ref h_sizes :: .ref h_rights :: g_edits :: .ref h_pastRules :: .ref h_pastLefts :: .ref h_pastSizes :: .ref h_pastRights :: g_levels :: g_codes :: g_details :: g_asked :: g_isWorked :: g_empties :: g_firsts :: g_follows :: g_isKept :: g_keptEmpties :: g_keptFirsts :: g_keptFollows :: g_strings :: g_longs :: g_trial :: g_trialLong :: g_foundName :: g_foundToken :: g_foundP :: g_foundQ :: g_moved :: g_movedSizes :: g_synchronizing :: g_input :: g_inputLong :: g_stack :: g_stackParents :: g_top :: g_at :: g_steps :: g_traced :: g_traces :: g_nodes :: g_made :: g_nodeSymbols :: g_nodeParents :: g_errors :: g_errorAts :: g_errorKinds :: g_errorTops :: g_weights :: g_bests :: g_bestLongs :: g_partly :: g_partlyLongs :: g_repaired :: g_repairedLong :: []))), (h_lefts, .inl (tc.1, 24, .inl c_lefts)), (h_sizes, .inl (tc.1, 24, .inl c_sizes)), (h_rights, .inl (tc.1, 120, .inl c_rights)), (h_pastRules, .inl (tc.1, 10, .inl f1)), (h_pastLefts, .inl (tc.1, 240, .inl f19)), (h_pastSizes, .inl (tc.1, 240, .inl v16)), (h_pastRights, .inl (tc.1, 1200, .inl c_pastRights))]) d12_lays_34 5 rfl (fun _ => rfl) (fun f19 => ?_)
    refine j_aload C d12_lays_35 0 rfl ?_
    refine j_get C d12_lays_36 fl12_25 0 rfl rfl ?_
    refine j_const C d12_lays_39 ?_
    refine j_iload C d12_lays_41 1 rfl ?_
    refine j_imul C d12_lays_42 ?_
    refine j_iload C d12_lays_43 2 rfl ?_
    refine j_iadd C d12_lays_44 ?_
    refine j_aload C d12_lays_45 0 rfl ?_
    refine j_get C d12_lays_46 fl12_13 0 rfl rfl ?_
    refine j_iload C d12_lays_49 2 rfl ?_
    refine j_iald C d12_lays_50 2 rfl (fun x20 => ?_)
    refine j_iast C (fun f21 => [(h_, .inr (12, (.int c_rules :: .ref h_lefts :: .ref h_sizes :: .ref h_rights :: g_edits :: .ref h_pastRules :: .ref h_pastLefts :: .ref h_pastSizes :: .ref h_pastRights :: g_levels :: g_codes :: g_details :: g_asked :: g_isWorked :: g_empties :: g_firsts :: g_follows :: g_isKept :: g_keptEmpties :: g_keptFirsts :: g_keptFollows :: g_strings :: g_longs :: g_trial :: g_trialLong :: g_foundName :: g_foundToken :: g_foundP :: g_foundQ :: g_moved :: g_movedSizes :: g_synchronizing :: g_input :: g_inputLong :: g_stack :: g_stackParents :: g_top :: g_at :: g_steps :: g_traced :: g_traces :: g_nodes :: g_made :: g_nodeSymbols :: g_nodeParents :: g_errors :: g_errorAts :: g_errorKinds :: g_errorTops :: g_weights :: g_bests :: g_bestLongs :: g_partly :: g_partlyLongs :: g_repaired :: g_repairedLong :: []))), (h_lefts, .inl (tc.1, 24, .inl c_lefts)), (h_sizes, .inl (tc.1, 24, .inl c_sizes)), (h_rights, .inl (tc.1, 120, .inl c_rights)), (h_pastRules, .inl (tc.1, 10, .inl f1)), (h_pastLefts, .inl (tc.1, 240, .inl f19)), (h_pastSizes, .inl (tc.1, 240, .inl f21)), (h_pastRights, .inl (tc.1, 1200, .inl c_pastRights))]) d12_lays_51 6 rfl (fun _ => rfl) (fun f21 => ?_)
    refine j_iincN C (fun x22 => [(2, .int x22), (0, .ref h_), (1, .int p1)]) d12_lays_52 2 rfl (by decide +kernel) (by decide) (fun _ => rfl) (fun x22 => ?_)
    refine j_goto C d12_lays_55 ?_
    exact j_sub [1, 2, 0] rfl (hrc17 _ _ _)

set_option maxHeartbeats 4000000 in
set_option maxRecDepth 100000 in
theorem kX12_lays (l : Launch) (D : va_G) (tc : jTC) (N : Nat) (h_ h_lefts h_sizes h_rights h_pastRules h_pastLefts h_pastSizes h_pastRights : Nat) (g_edits g_levels g_codes g_details g_asked g_isWorked g_empties g_firsts g_follows g_isKept g_keptEmpties g_keptFirsts g_keptFollows g_strings g_longs g_trial g_trialLong g_foundName g_foundToken g_foundP g_foundQ g_moved g_movedSizes g_synchronizing g_input g_inputLong g_stack g_stackParents g_top g_at g_steps g_traced g_traces g_nodes g_made g_nodeSymbols g_nodeParents g_errors g_errorAts g_errorKinds g_errorTops g_weights g_bests g_bestLongs g_partly g_partlyLongs g_repaired g_repairedLong : Value) (c_rules : Int32) (c_lefts : (Nat → Int32)) (c_sizes : (Nat → Int32)) (c_rights : (Nat → Int32)) (c_pastRules : (Nat → Int32)) (c_pastLefts : (Nat → Int32)) (c_pastSizes : (Nat → Int32)) (c_pastRights : (Nat → Int32)) (p1 : Int32) : ctV l D tc yX12_lays (Cond.code yX12_lays cX12_lays 3 none :: jtb) ({ frames := 0, cells := 0, slots := 0, locals := 0 } : Room) [.ref h_, .int p1] [(h_, .inr (12, (.int c_rules :: .ref h_lefts :: .ref h_sizes :: .ref h_rights :: g_edits :: .ref h_pastRules :: .ref h_pastLefts :: .ref h_pastSizes :: .ref h_pastRights :: g_levels :: g_codes :: g_details :: g_asked :: g_isWorked :: g_empties :: g_firsts :: g_follows :: g_isKept :: g_keptEmpties :: g_keptFirsts :: g_keptFollows :: g_strings :: g_longs :: g_trial :: g_trialLong :: g_foundName :: g_foundToken :: g_foundP :: g_foundQ :: g_moved :: g_movedSizes :: g_synchronizing :: g_input :: g_inputLong :: g_stack :: g_stackParents :: g_top :: g_at :: g_steps :: g_traced :: g_traces :: g_nodes :: g_made :: g_nodeSymbols :: g_nodeParents :: g_errors :: g_errorAts :: g_errorKinds :: g_errorTops :: g_weights :: g_bests :: g_bestLongs :: g_partly :: g_partlyLongs :: g_repaired :: g_repairedLong :: []))), (h_lefts, .inl (tc.1, 24, .inl c_lefts)), (h_sizes, .inl (tc.1, 24, .inl c_sizes)), (h_rights, .inl (tc.1, 120, .inl c_rights)), (h_pastRules, .inl (tc.1, 10, .inl c_pastRules)), (h_pastLefts, .inl (tc.1, 240, .inl c_pastLefts)), (h_pastSizes, .inl (tc.1, 240, .inl c_pastSizes)), (h_pastRights, .inl (tc.1, 1200, .inl c_pastRights))] (fX12_lays N c_rules c_lefts c_sizes c_rights c_pastRules c_pastLefts c_pastSizes c_pastRights p1) (fun (u : (Nat → Int32) × (Nat → Int32) × (Nat → Int32) × (Nat → Int32)) => [(h_, .inr (12, (.int c_rules :: .ref h_lefts :: .ref h_sizes :: .ref h_rights :: g_edits :: .ref h_pastRules :: .ref h_pastLefts :: .ref h_pastSizes :: .ref h_pastRights :: g_levels :: g_codes :: g_details :: g_asked :: g_isWorked :: g_empties :: g_firsts :: g_follows :: g_isKept :: g_keptEmpties :: g_keptFirsts :: g_keptFollows :: g_strings :: g_longs :: g_trial :: g_trialLong :: g_foundName :: g_foundToken :: g_foundP :: g_foundQ :: g_moved :: g_movedSizes :: g_synchronizing :: g_input :: g_inputLong :: g_stack :: g_stackParents :: g_top :: g_at :: g_steps :: g_traced :: g_traces :: g_nodes :: g_made :: g_nodeSymbols :: g_nodeParents :: g_errors :: g_errorAts :: g_errorKinds :: g_errorTops :: g_weights :: g_bests :: g_bestLongs :: g_partly :: g_partlyLongs :: g_repaired :: g_repairedLong :: []))), (h_lefts, .inl (tc.1, 24, .inl c_lefts)), (h_sizes, .inl (tc.1, 24, .inl c_sizes)), (h_rights, .inl (tc.1, 120, .inl c_rights)), (h_pastRules, .inl (tc.1, 10, .inl u.1)), (h_pastLefts, .inl (tc.1, 240, .inl u.2.1)), (h_pastSizes, .inl (tc.1, 240, .inl u.2.2.1)), (h_pastRights, .inl (tc.1, 1200, .inl u.2.2.2))]) := by
  refine ctV_of (lv0 := [(0, .ref h_), (1, .int p1)]) (by decide +kernel) (Nat.le_of_ble_eq_true rfl) rfl (fun X C => ?_)
  unfold fX12_lays
  refine j_aload C d12_lays_0 0 rfl ?_
  refine j_get C d12_lays_1 fl12_19 0 rfl rfl ?_
  refine j_iload C d12_lays_4 1 rfl ?_
  refine j_aload C d12_lays_5 0 rfl ?_
  refine j_get C d12_lays_6 fl12_123 0 rfl rfl ?_
  refine j_iast C (fun f1 => [(h_, .inr (12, (.int c_rules :: .ref h_lefts :: .ref h_sizes :: .ref h_rights :: g_edits :: .ref h_pastRules :: .ref h_pastLefts :: .ref h_pastSizes :: .ref h_pastRights :: g_levels :: g_codes :: g_details :: g_asked :: g_isWorked :: g_empties :: g_firsts :: g_follows :: g_isKept :: g_keptEmpties :: g_keptFirsts :: g_keptFollows :: g_strings :: g_longs :: g_trial :: g_trialLong :: g_foundName :: g_foundToken :: g_foundP :: g_foundQ :: g_moved :: g_movedSizes :: g_synchronizing :: g_input :: g_inputLong :: g_stack :: g_stackParents :: g_top :: g_at :: g_steps :: g_traced :: g_traces :: g_nodes :: g_made :: g_nodeSymbols :: g_nodeParents :: g_errors :: g_errorAts :: g_errorKinds :: g_errorTops :: g_weights :: g_bests :: g_bestLongs :: g_partly :: g_partlyLongs :: g_repaired :: g_repairedLong :: []))), (h_lefts, .inl (tc.1, 24, .inl c_lefts)), (h_sizes, .inl (tc.1, 24, .inl c_sizes)), (h_rights, .inl (tc.1, 120, .inl c_rights)), (h_pastRules, .inl (tc.1, 10, .inl f1)), (h_pastLefts, .inl (tc.1, 240, .inl c_pastLefts)), (h_pastSizes, .inl (tc.1, 240, .inl c_pastSizes)), (h_pastRights, .inl (tc.1, 1200, .inl c_pastRights))]) d12_lays_9 4 rfl (fun _ => rfl) (fun f1 => ?_)
  refine j_const C d12_lays_10 ?_
  refine j_istore C d12_lays_11 (by decide) (lv' := [(2, .int 0), (0, .ref h_), (1, .int p1)]) rfl ?_
  refine j_join2 58 (fun v2 v3 => [(h_, .inr (12, (.int c_rules :: .ref h_lefts :: .ref h_sizes :: .ref h_rights :: g_edits :: .ref h_pastRules :: .ref h_pastLefts :: .ref h_pastSizes :: .ref h_pastRights :: g_levels :: g_codes :: g_details :: g_asked :: g_isWorked :: g_empties :: g_firsts :: g_follows :: g_isKept :: g_keptEmpties :: g_keptFirsts :: g_keptFollows :: g_strings :: g_longs :: g_trial :: g_trialLong :: g_foundName :: g_foundToken :: g_foundP :: g_foundQ :: g_moved :: g_movedSizes :: g_synchronizing :: g_input :: g_inputLong :: g_stack :: g_stackParents :: g_top :: g_at :: g_steps :: g_traced :: g_traces :: g_nodes :: g_made :: g_nodeSymbols :: g_nodeParents :: g_errors :: g_errorAts :: g_errorKinds :: g_errorTops :: g_weights :: g_bests :: g_bestLongs :: g_partly :: g_partlyLongs :: g_repaired :: g_repairedLong :: []))), (h_lefts, .inl (tc.1, 24, .inl c_lefts)), (h_sizes, .inl (tc.1, 24, .inl c_sizes)), (h_rights, .inl (tc.1, 120, .inl c_rights)), (h_pastRules, .inl (tc.1, 10, .inl f1)), (h_pastLefts, .inl (tc.1, 240, .inl v2)), (h_pastSizes, .inl (tc.1, 240, .inl v3)), (h_pastRights, .inl (tc.1, 1200, .inl c_pastRights))]) (fun v2 v3 => [(0, .ref h_), (1, .int p1)]) (fun v2 v3 => []) (fun v2 v3 => ?_) (fun k13 hk13 => ?_)
  · refine j_const C d12_lays_58 ?_
    refine j_istore C d12_lays_59 (by decide) (lv' := [(2, .int 0), (0, .ref h_), (1, .int p1)]) rfl ?_
    refine j_join 89 (fun v4 => [(h_, .inr (12, (.int c_rules :: .ref h_lefts :: .ref h_sizes :: .ref h_rights :: g_edits :: .ref h_pastRules :: .ref h_pastLefts :: .ref h_pastSizes :: .ref h_pastRights :: g_levels :: g_codes :: g_details :: g_asked :: g_isWorked :: g_empties :: g_firsts :: g_follows :: g_isKept :: g_keptEmpties :: g_keptFirsts :: g_keptFollows :: g_strings :: g_longs :: g_trial :: g_trialLong :: g_foundName :: g_foundToken :: g_foundP :: g_foundQ :: g_moved :: g_movedSizes :: g_synchronizing :: g_input :: g_inputLong :: g_stack :: g_stackParents :: g_top :: g_at :: g_steps :: g_traced :: g_traces :: g_nodes :: g_made :: g_nodeSymbols :: g_nodeParents :: g_errors :: g_errorAts :: g_errorKinds :: g_errorTops :: g_weights :: g_bests :: g_bestLongs :: g_partly :: g_partlyLongs :: g_repaired :: g_repairedLong :: []))), (h_lefts, .inl (tc.1, 24, .inl c_lefts)), (h_sizes, .inl (tc.1, 24, .inl c_sizes)), (h_rights, .inl (tc.1, 120, .inl c_rights)), (h_pastRules, .inl (tc.1, 10, .inl f1)), (h_pastLefts, .inl (tc.1, 240, .inl v2)), (h_pastSizes, .inl (tc.1, 240, .inl v3)), (h_pastRights, .inl (tc.1, 1200, .inl v4))]) (fun v4 => []) (fun v4 => []) (fun v4 => ?_) (fun k5 hk5 => ?_)
    · exact j_vret C d12_lays_89 rfl
    · exact j_sub [1, 2, 0] rfl (j_loop2 (fun v6 v7 => [(h_, .inr (12, (.int c_rules :: .ref h_lefts :: .ref h_sizes :: .ref h_rights :: g_edits :: .ref h_pastRules :: .ref h_pastLefts :: .ref h_pastSizes :: .ref h_pastRights :: g_levels :: g_codes :: g_details :: g_asked :: g_isWorked :: g_empties :: g_firsts :: g_follows :: g_isKept :: g_keptEmpties :: g_keptFirsts :: g_keptFollows :: g_strings :: g_longs :: g_trial :: g_trialLong :: g_foundName :: g_foundToken :: g_foundP :: g_foundQ :: g_moved :: g_movedSizes :: g_synchronizing :: g_input :: g_inputLong :: g_stack :: g_stackParents :: g_top :: g_at :: g_steps :: g_traced :: g_traces :: g_nodes :: g_made :: g_nodeSymbols :: g_nodeParents :: g_errors :: g_errorAts :: g_errorKinds :: g_errorTops :: g_weights :: g_bests :: g_bestLongs :: g_partly :: g_partlyLongs :: g_repaired :: g_repairedLong :: []))), (h_lefts, .inl (tc.1, 24, .inl c_lefts)), (h_sizes, .inl (tc.1, 24, .inl c_sizes)), (h_rights, .inl (tc.1, 120, .inl c_rights)), (h_pastRules, .inl (tc.1, 10, .inl f1)), (h_pastLefts, .inl (tc.1, 240, .inl v2)), (h_pastSizes, .inl (tc.1, 240, .inl v3)), (h_pastRights, .inl (tc.1, 1200, .inl v7))]) (fun v6 v7 => [(0, .ref h_), (1, .int p1), (2, .int v6)]) (fun rc8 hrc8 v6 v7 => wX12_lays_60 C h_ h_lefts h_sizes h_rights h_pastRules h_pastLefts h_pastSizes h_pastRights g_edits g_levels g_codes g_details g_asked g_isWorked g_empties g_firsts g_follows g_isKept g_keptEmpties g_keptFirsts g_keptFollows g_strings g_longs g_trial g_trialLong g_foundName g_foundToken g_foundP g_foundQ g_moved g_movedSizes g_synchronizing g_input g_inputLong g_stack g_stackParents g_top g_at g_steps g_traced g_traces g_nodes g_made g_nodeSymbols g_nodeParents g_errors g_errorAts g_errorKinds g_errorTops g_weights g_bests g_bestLongs g_partly g_partlyLongs g_repaired g_repairedLong p1 c_rules c_lefts c_sizes c_rights f1 v2 v3 k5 hk5 rc8 hrc8 v6 v7) N _ _)
  · exact j_sub [1, 2, 0] rfl (j_loop3 (fun v14 v15 v16 => [(h_, .inr (12, (.int c_rules :: .ref h_lefts :: .ref h_sizes :: .ref h_rights :: g_edits :: .ref h_pastRules :: .ref h_pastLefts :: .ref h_pastSizes :: .ref h_pastRights :: g_levels :: g_codes :: g_details :: g_asked :: g_isWorked :: g_empties :: g_firsts :: g_follows :: g_isKept :: g_keptEmpties :: g_keptFirsts :: g_keptFollows :: g_strings :: g_longs :: g_trial :: g_trialLong :: g_foundName :: g_foundToken :: g_foundP :: g_foundQ :: g_moved :: g_movedSizes :: g_synchronizing :: g_input :: g_inputLong :: g_stack :: g_stackParents :: g_top :: g_at :: g_steps :: g_traced :: g_traces :: g_nodes :: g_made :: g_nodeSymbols :: g_nodeParents :: g_errors :: g_errorAts :: g_errorKinds :: g_errorTops :: g_weights :: g_bests :: g_bestLongs :: g_partly :: g_partlyLongs :: g_repaired :: g_repairedLong :: []))), (h_lefts, .inl (tc.1, 24, .inl c_lefts)), (h_sizes, .inl (tc.1, 24, .inl c_sizes)), (h_rights, .inl (tc.1, 120, .inl c_rights)), (h_pastRules, .inl (tc.1, 10, .inl f1)), (h_pastLefts, .inl (tc.1, 240, .inl v15)), (h_pastSizes, .inl (tc.1, 240, .inl v16)), (h_pastRights, .inl (tc.1, 1200, .inl c_pastRights))]) (fun v14 v15 v16 => [(0, .ref h_), (1, .int p1), (2, .int v14)]) (fun rc17 hrc17 v14 v15 v16 => wX12_lays_12 C h_ h_lefts h_sizes h_rights h_pastRules h_pastLefts h_pastSizes h_pastRights g_edits g_levels g_codes g_details g_asked g_isWorked g_empties g_firsts g_follows g_isKept g_keptEmpties g_keptFirsts g_keptFollows g_strings g_longs g_trial g_trialLong g_foundName g_foundToken g_foundP g_foundQ g_moved g_movedSizes g_synchronizing g_input g_inputLong g_stack g_stackParents g_top g_at g_steps g_traced g_traces g_nodes g_made g_nodeSymbols g_nodeParents g_errors g_errorAts g_errorKinds g_errorTops g_weights g_bests g_bestLongs g_partly g_partlyLongs g_repaired g_repairedLong p1 c_rules c_lefts c_sizes c_rights c_pastRights f1 k13 hk13 rc17 hrc17 v14 v15 v16) N _ _ _)

