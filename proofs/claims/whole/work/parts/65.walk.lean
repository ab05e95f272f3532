theorem d11_error_0 : jdi cX11_error 0 2 1 := Or.inl ⟨2, by decide +kernel⟩
theorem d11_error_1 : jdb cX11_error 1 (.ifCond .lt 8) 8 9 4 := by decide +kernel
theorem d11_error_4 : jdi cX11_error 4 2 5 := Or.inl ⟨2, by decide +kernel⟩
theorem d11_error_5 : jdk cX11_error 5 2 6 := Or.inl ⟨2, by decide +kernel⟩
theorem d11_error_6 : jdb cX11_error 6 (.if_icmp .le 5) 5 11 9 := by decide +kernel
theorem d11_error_9 : jdk cX11_error 9 (-1) 10 := Or.inl ⟨(-1), by decide +kernel⟩
theorem d11_error_10 : decode cX11_error 10 = .ok (.ireturn, 1) := by decide +kernel
theorem d11_error_11 : jda cX11_error 11 0 12 := Or.inl ⟨0, by decide +kernel⟩
theorem d11_error_12 : jd cX11_error 12 (.getfield 61) 3 15 := by decide +kernel
theorem d11_error_15 : jdi cX11_error 15 1 16 := Or.inl ⟨1, by decide +kernel⟩
theorem d11_error_16 : jdi cX11_error 16 2 17 := Or.inl ⟨2, by decide +kernel⟩
theorem d11_error_17 : jd cX11_error 17 (.invokevirtual 269) 3 20 := by decide +kernel
theorem d11_error_20 : decode cX11_error 20 = .ok (.ireturn, 1) := by decide +kernel
set_option maxHeartbeats 4000000 in
set_option maxRecDepth 100000 in
theorem kX11_error (l : Launch) (D : va_G) (tc : jTC) (h_ h_parser h_parser_errorParts : Nat) (g_rules g_history g_sets g_setsBefore g_table g_failure g_input g_examples g_repairer g_parser_rules g_parser_sets g_parser_table g_parser_input g_parser_synchronizing g_parser_trace g_parser_traceLength g_parser_tree g_parser_stack g_parser_bringers g_parser_depth g_parser_index g_parser_steps : Value) (c_parser_errorParts : (Nat → Int32)) (c_parser_errorCount : Int32) (p1 : Int32) (p2 : Int32) : ctI0 l D tc yX11_error (Cond.code yX11_error cX11_error 3 (some .int) :: jtb) ({ frames := 1, cells := 0, slots := 0, locals := 22 } : Room) [.ref h_, .int p1, .int p2] [(h_, .inr (11, [g_rules, g_history, g_sets, g_setsBefore, g_table, g_failure, g_input, .ref h_parser, g_examples, g_repairer])), (h_parser, .inr (4, [g_parser_rules, g_parser_sets, g_parser_table, g_parser_input, g_parser_synchronizing, g_parser_trace, g_parser_traceLength, g_parser_tree, .ref h_parser_errorParts, .int c_parser_errorCount, g_parser_stack, g_parser_bringers, g_parser_depth, g_parser_index, g_parser_steps])), (h_parser_errorParts, .inl (tc.1, 900, .inl c_parser_errorParts))] (fX11_error c_parser_errorParts c_parser_errorCount p1 p2) := by
  refine ctI0_of (lv0 := [(0, .ref h_), (1, .int p1), (2, .int p2)]) (by decide +kernel) (Nat.le_of_ble_eq_true rfl) rfl (fun X C => ?_)
  unfold fX11_error
  refine j_iload C d11_error_0 2 rfl ?_
  refine j_join 9 (fun v1 => [(h_, .inr (11, [g_rules, g_history, g_sets, g_setsBefore, g_table, g_failure, g_input, .ref h_parser, g_examples, g_repairer])), (h_parser, .inr (4, [g_parser_rules, g_parser_sets, g_parser_table, g_parser_input, g_parser_synchronizing, g_parser_trace, g_parser_traceLength, g_parser_tree, .ref h_parser_errorParts, .int c_parser_errorCount, g_parser_stack, g_parser_bringers, g_parser_depth, g_parser_index, g_parser_steps])), (h_parser_errorParts, .inl (tc.1, 900, .inl c_parser_errorParts))]) (fun v1 => []) (fun v1 => []) (fun v1 => ?_) (fun k2 hk2 => ?_)
  · refine j_const C d11_error_9 ?_
    exact j_iret0 C d11_error_10
  · refine j_if_lt C d11_error_1 ?_ ?_
    · exact j_sub [] rfl (hk2 _)
    · refine j_iload C d11_error_4 2 rfl ?_
      refine j_const C d11_error_5 ?_
      refine j_icmp_le C d11_error_6 ?_ ?_
      · refine j_aload C d11_error_11 0 rfl ?_
        refine j_get C d11_error_12 fl11_61 0 rfl rfl ?_
        refine j_iload C d11_error_15 1 rfl ?_
        refine j_iload C d11_error_16 2 rfl ?_
        refine j_callVI0 (As := [.int p1, .int p2]) C d11_error_17 mv11_269 (kX4_errorPart _ _ tc h_parser h_parser_errorParts g_parser_rules g_parser_sets g_parser_table g_parser_input g_parser_synchronizing g_parser_trace g_parser_traceLength g_parser_tree g_parser_stack g_parser_bringers g_parser_depth g_parser_index g_parser_steps c_parser_errorParts c_parser_errorCount p1 p2) ⟨rfl, rfl, Nat.le_of_ble_eq_true rfl, Nat.le_of_ble_eq_true rfl⟩ rfl 1 rfl [1, 2] rfl rfl rfl (Nat.le_of_ble_eq_true rfl) (fun x3 => ?_)
        exact j_iret0 C d11_error_20
      · exact j_sub [] rfl (hk2 _)

theorem d11_traceLength_0 : jda cX11_traceLength 0 0 1 := Or.inl ⟨0, by decide +kernel⟩
theorem d11_traceLength_1 : jd cX11_traceLength 1 (.getfield 61) 3 4 := by decide +kernel
theorem d11_traceLength_4 : jd cX11_traceLength 4 (.getfield 272) 3 7 := by decide +kernel
theorem d11_traceLength_7 : decode cX11_traceLength 7 = .ok (.ireturn, 1) := by decide +kernel
set_option maxHeartbeats 4000000 in
set_option maxRecDepth 100000 in
theorem kX11_traceLength (l : Launch) (D : va_G) (tc : jTC) (h_ h_parser : Nat) (g_rules g_history g_sets g_setsBefore g_table g_failure g_input g_examples g_repairer g_parser_rules g_parser_sets g_parser_table g_parser_input g_parser_synchronizing g_parser_trace g_parser_tree g_parser_errorParts g_parser_errorCount g_parser_stack g_parser_bringers g_parser_depth g_parser_index g_parser_steps : Value) (c_parser_traceLength : Int32) : ctI0 l D tc yX11_traceLength (Cond.code yX11_traceLength cX11_traceLength 1 (some .int) :: jtb) ({ frames := 0, cells := 0, slots := 0, locals := 0 } : Room) [.ref h_] [(h_, .inr (11, [g_rules, g_history, g_sets, g_setsBefore, g_table, g_failure, g_input, .ref h_parser, g_examples, g_repairer])), (h_parser, .inr (4, [g_parser_rules, g_parser_sets, g_parser_table, g_parser_input, g_parser_synchronizing, g_parser_trace, .int c_parser_traceLength, g_parser_tree, g_parser_errorParts, g_parser_errorCount, g_parser_stack, g_parser_bringers, g_parser_depth, g_parser_index, g_parser_steps]))] (fX11_traceLength c_parser_traceLength) := by
  refine ctI0_of (lv0 := [(0, .ref h_)]) (by decide +kernel) (Nat.le_of_ble_eq_true rfl) rfl (fun X C => ?_)
  unfold fX11_traceLength
  refine j_aload C d11_traceLength_0 0 rfl ?_
  refine j_get C d11_traceLength_1 fl11_61 0 rfl rfl ?_
  refine j_get C d11_traceLength_4 fl11_272 1 rfl rfl ?_
  exact j_iret0 C d11_traceLength_7

theorem d11_trace_0 : jdi cX11_trace 0 1 1 := Or.inl ⟨1, by decide +kernel⟩
theorem d11_trace_1 : jdb cX11_trace 1 (.ifCond .lt 26) 26 27 4 := by decide +kernel
theorem d11_trace_4 : jdi cX11_trace 4 1 5 := Or.inl ⟨1, by decide +kernel⟩
theorem d11_trace_5 : jda cX11_trace 5 0 6 := Or.inl ⟨0, by decide +kernel⟩
theorem d11_trace_6 : jd cX11_trace 6 (.getfield 61) 3 9 := by decide +kernel
theorem d11_trace_9 : jd cX11_trace 9 (.getfield 272) 3 12 := by decide +kernel
theorem d11_trace_12 : jdb cX11_trace 12 (.if_icmp .ge 15) 15 27 15 := by decide +kernel
theorem d11_trace_15 : jda cX11_trace 15 0 16 := Or.inl ⟨0, by decide +kernel⟩
theorem d11_trace_16 : jd cX11_trace 16 (.getfield 61) 3 19 := by decide +kernel
theorem d11_trace_19 : jd cX11_trace 19 (.getfield 275) 3 22 := by decide +kernel
theorem d11_trace_22 : jdi cX11_trace 22 1 23 := Or.inl ⟨1, by decide +kernel⟩
theorem d11_trace_23 : jd cX11_trace 23 (.iaload) 1 24 := by decide +kernel
theorem d11_trace_24 : jdb cX11_trace 24 (.goto 5) 5 29 27 := by decide +kernel
theorem d11_trace_27 : jdk cX11_trace 27 (-2) 29 := Or.inr (Or.inl ⟨(-2), by decide +kernel⟩)
theorem d11_trace_29 : decode cX11_trace 29 = .ok (.ireturn, 1) := by decide +kernel
set_option maxHeartbeats 4000000 in
set_option maxRecDepth 100000 in
theorem kX11_trace (l : Launch) (D : va_G) (tc : jTC) (h_ h_parser h_parser_trace : Nat) (g_rules g_history g_sets g_setsBefore g_table g_failure g_input g_examples g_repairer g_parser_rules g_parser_sets g_parser_table g_parser_input g_parser_synchronizing g_parser_tree g_parser_errorParts g_parser_errorCount g_parser_stack g_parser_bringers g_parser_depth g_parser_index g_parser_steps : Value) (c_parser_trace : (Nat → Int32)) (c_parser_traceLength : Int32) (p1 : Int32) : ctI0 l D tc yX11_trace (Cond.code yX11_trace cX11_trace 2 (some .int) :: jtb) ({ frames := 0, cells := 0, slots := 0, locals := 0 } : Room) [.ref h_, .int p1] [(h_, .inr (11, [g_rules, g_history, g_sets, g_setsBefore, g_table, g_failure, g_input, .ref h_parser, g_examples, g_repairer])), (h_parser, .inr (4, [g_parser_rules, g_parser_sets, g_parser_table, g_parser_input, g_parser_synchronizing, .ref h_parser_trace, .int c_parser_traceLength, g_parser_tree, g_parser_errorParts, g_parser_errorCount, g_parser_stack, g_parser_bringers, g_parser_depth, g_parser_index, g_parser_steps])), (h_parser_trace, .inl (tc.1, 300, .inl c_parser_trace))] (fX11_trace c_parser_trace c_parser_traceLength p1) := by
  refine ctI0_of (lv0 := [(0, .ref h_), (1, .int p1)]) (by decide +kernel) (Nat.le_of_ble_eq_true rfl) rfl (fun X C => ?_)
  unfold fX11_trace
  refine j_iload C d11_trace_0 1 rfl ?_
  refine j_join 29 (fun v1 => [(h_, .inr (11, [g_rules, g_history, g_sets, g_setsBefore, g_table, g_failure, g_input, .ref h_parser, g_examples, g_repairer])), (h_parser, .inr (4, [g_parser_rules, g_parser_sets, g_parser_table, g_parser_input, g_parser_synchronizing, .ref h_parser_trace, .int c_parser_traceLength, g_parser_tree, g_parser_errorParts, g_parser_errorCount, g_parser_stack, g_parser_bringers, g_parser_depth, g_parser_index, g_parser_steps])), (h_parser_trace, .inl (tc.1, 300, .inl c_parser_trace))]) (fun v1 => []) (fun v1 => [.int v1]) (fun v1 => ?_) (fun k2 hk2 => ?_)
  · exact j_iret0 C d11_trace_29
  · refine j_join 27 (fun v3 => [(h_, .inr (11, [g_rules, g_history, g_sets, g_setsBefore, g_table, g_failure, g_input, .ref h_parser, g_examples, g_repairer])), (h_parser, .inr (4, [g_parser_rules, g_parser_sets, g_parser_table, g_parser_input, g_parser_synchronizing, .ref h_parser_trace, .int c_parser_traceLength, g_parser_tree, g_parser_errorParts, g_parser_errorCount, g_parser_stack, g_parser_bringers, g_parser_depth, g_parser_index, g_parser_steps])), (h_parser_trace, .inl (tc.1, 300, .inl c_parser_trace))]) (fun v3 => []) (fun v3 => []) (fun v3 => ?_) (fun k4 hk4 => ?_)
    · refine j_const C d11_trace_27 ?_
      exact hk2 _
    · refine j_if_lt C d11_trace_1 ?_ ?_
      · exact j_sub [] rfl (hk4 _)
      · refine j_iload C d11_trace_4 1 rfl ?_
        refine j_aload C d11_trace_5 0 rfl ?_
        refine j_get C d11_trace_6 fl11_61 0 rfl rfl ?_
        refine j_get C d11_trace_9 fl11_272 1 rfl rfl ?_
        refine j_icmp_ge C d11_trace_12 ?_ ?_
        · exact j_sub [] rfl (hk4 _)
        · refine j_aload C d11_trace_15 0 rfl ?_
          refine j_get C d11_trace_16 fl11_61 0 rfl rfl ?_
          refine j_get C d11_trace_19 fl11_275 1 rfl rfl ?_
          refine j_iload C d11_trace_22 1 rfl ?_
          refine j_iald C d11_trace_23 2 rfl (fun x5 => ?_)
          refine j_goto C d11_trace_24 ?_
          exact j_sub [] rfl (hk2 _)

theorem d11_nodeCount_0 : jda cX11_nodeCount 0 0 1 := Or.inl ⟨0, by decide +kernel⟩
theorem d11_nodeCount_1 : jd cX11_nodeCount 1 (.getfield 61) 3 4 := by decide +kernel
theorem d11_nodeCount_4 : jd cX11_nodeCount 4 (.getfield 278) 3 7 := by decide +kernel
theorem d11_nodeCount_7 : jd cX11_nodeCount 7 (.getfield 282) 3 10 := by decide +kernel
theorem d11_nodeCount_10 : decode cX11_nodeCount 10 = .ok (.ireturn, 1) := by decide +kernel
set_option maxHeartbeats 4000000 in
set_option maxRecDepth 100000 in
theorem kX11_nodeCount (l : Launch) (D : va_G) (tc : jTC) (h_ h_parser h_parser_tree : Nat) (g_rules g_history g_sets g_setsBefore g_table g_failure g_input g_examples g_repairer g_parser_rules g_parser_sets g_parser_table g_parser_input g_parser_synchronizing g_parser_trace g_parser_traceLength g_parser_errorParts g_parser_errorCount g_parser_stack g_parser_bringers g_parser_depth g_parser_index g_parser_steps g_parser_tree_symbols g_parser_tree_parents g_parser_tree_heights : Value) (c_parser_tree_count : Int32) : ctI0 l D tc yX11_nodeCount (Cond.code yX11_nodeCount cX11_nodeCount 1 (some .int) :: jtb) ({ frames := 0, cells := 0, slots := 0, locals := 0 } : Room) [.ref h_] [(h_, .inr (11, [g_rules, g_history, g_sets, g_setsBefore, g_table, g_failure, g_input, .ref h_parser, g_examples, g_repairer])), (h_parser, .inr (4, [g_parser_rules, g_parser_sets, g_parser_table, g_parser_input, g_parser_synchronizing, g_parser_trace, g_parser_traceLength, .ref h_parser_tree, g_parser_errorParts, g_parser_errorCount, g_parser_stack, g_parser_bringers, g_parser_depth, g_parser_index, g_parser_steps])), (h_parser_tree, .inr (9, [g_parser_tree_symbols, g_parser_tree_parents, g_parser_tree_heights, .int c_parser_tree_count]))] (fX11_nodeCount c_parser_tree_count) := by
  refine ctI0_of (lv0 := [(0, .ref h_)]) (by decide +kernel) (Nat.le_of_ble_eq_true rfl) rfl (fun X C => ?_)
  unfold fX11_nodeCount
  refine j_aload C d11_nodeCount_0 0 rfl ?_
  refine j_get C d11_nodeCount_1 fl11_61 0 rfl rfl ?_
  refine j_get C d11_nodeCount_4 fl11_278 1 rfl rfl ?_
  refine j_get C d11_nodeCount_7 fl11_282 2 rfl rfl ?_
  exact j_iret0 C d11_nodeCount_10

theorem d11_nodeSymbol_0 : jda cX11_nodeSymbol 0 0 1 := Or.inl ⟨0, by decide +kernel⟩
theorem d11_nodeSymbol_1 : jd cX11_nodeSymbol 1 (.getfield 61) 3 4 := by decide +kernel
theorem d11_nodeSymbol_4 : jd cX11_nodeSymbol 4 (.getfield 278) 3 7 := by decide +kernel
theorem d11_nodeSymbol_7 : jdi cX11_nodeSymbol 7 1 8 := Or.inl ⟨1, by decide +kernel⟩
theorem d11_nodeSymbol_8 : jd cX11_nodeSymbol 8 (.invokevirtual 285) 3 11 := by decide +kernel
theorem d11_nodeSymbol_11 : jdb cX11_nodeSymbol 11 (.ifCond .eq 18) 18 29 14 := by decide +kernel
theorem d11_nodeSymbol_14 : jda cX11_nodeSymbol 14 0 15 := Or.inl ⟨0, by decide +kernel⟩
theorem d11_nodeSymbol_15 : jd cX11_nodeSymbol 15 (.getfield 61) 3 18 := by decide +kernel
theorem d11_nodeSymbol_18 : jd cX11_nodeSymbol 18 (.getfield 278) 3 21 := by decide +kernel
theorem d11_nodeSymbol_21 : jd cX11_nodeSymbol 21 (.getfield 286) 3 24 := by decide +kernel
theorem d11_nodeSymbol_24 : jdi cX11_nodeSymbol 24 1 25 := Or.inl ⟨1, by decide +kernel⟩
theorem d11_nodeSymbol_25 : jd cX11_nodeSymbol 25 (.iaload) 1 26 := by decide +kernel
theorem d11_nodeSymbol_26 : jdb cX11_nodeSymbol 26 (.goto 5) 5 31 29 := by decide +kernel
theorem d11_nodeSymbol_29 : jdk cX11_nodeSymbol 29 (-2) 31 := Or.inr (Or.inl ⟨(-2), by decide +kernel⟩)
theorem d11_nodeSymbol_31 : decode cX11_nodeSymbol 31 = .ok (.ireturn, 1) := by decide +kernel
set_option maxHeartbeats 4000000 in
set_option maxRecDepth 100000 in
theorem kX11_nodeSymbol (l : Launch) (D : va_G) (tc : jTC) (h_ h_parser h_parser_tree h_parser_tree_symbols : Nat) (g_rules g_history g_sets g_setsBefore g_table g_failure g_input g_examples g_repairer g_parser_rules g_parser_sets g_parser_table g_parser_input g_parser_synchronizing g_parser_trace g_parser_traceLength g_parser_errorParts g_parser_errorCount g_parser_stack g_parser_bringers g_parser_depth g_parser_index g_parser_steps g_parser_tree_parents g_parser_tree_heights : Value) (c_parser_tree_symbols : (Nat → Int32)) (c_parser_tree_count : Int32) (p1 : Int32) : ctI0 l D tc yX11_nodeSymbol (Cond.code yX11_nodeSymbol cX11_nodeSymbol 2 (some .int) :: jtb) ({ frames := 1, cells := 0, slots := 0, locals := 21 } : Room) [.ref h_, .int p1] [(h_, .inr (11, [g_rules, g_history, g_sets, g_setsBefore, g_table, g_failure, g_input, .ref h_parser, g_examples, g_repairer])), (h_parser, .inr (4, [g_parser_rules, g_parser_sets, g_parser_table, g_parser_input, g_parser_synchronizing, g_parser_trace, g_parser_traceLength, .ref h_parser_tree, g_parser_errorParts, g_parser_errorCount, g_parser_stack, g_parser_bringers, g_parser_depth, g_parser_index, g_parser_steps])), (h_parser_tree, .inr (9, [.ref h_parser_tree_symbols, g_parser_tree_parents, g_parser_tree_heights, .int c_parser_tree_count])), (h_parser_tree_symbols, .inl (tc.1, 300, .inl c_parser_tree_symbols))] (fX11_nodeSymbol c_parser_tree_symbols c_parser_tree_count p1) := by
  refine ctI0_of (lv0 := [(0, .ref h_), (1, .int p1)]) (by decide +kernel) (Nat.le_of_ble_eq_true rfl) rfl (fun X C => ?_)
  unfold fX11_nodeSymbol
  refine j_aload C d11_nodeSymbol_0 0 rfl ?_
  refine j_get C d11_nodeSymbol_1 fl11_61 0 rfl rfl ?_
  refine j_get C d11_nodeSymbol_4 fl11_278 1 rfl rfl ?_
  refine j_iload C d11_nodeSymbol_7 1 rfl ?_
  refine j_callVI0 (As := [.int p1]) C d11_nodeSymbol_8 mv11_285 (kX9_has _ _ tc h_parser_tree (.ref h_parser_tree_symbols) g_parser_tree_parents g_parser_tree_heights c_parser_tree_count p1) ⟨rfl, rfl, Nat.le_of_ble_eq_true rfl, Nat.le_of_ble_eq_true rfl⟩ rfl 2 rfl [2] rfl rfl rfl (Nat.le_of_ble_eq_true rfl) (fun x1 => ?_)
  refine j_join 31 (fun v2 => [(h_, .inr (11, [g_rules, g_history, g_sets, g_setsBefore, g_table, g_failure, g_input, .ref h_parser, g_examples, g_repairer])), (h_parser, .inr (4, [g_parser_rules, g_parser_sets, g_parser_table, g_parser_input, g_parser_synchronizing, g_parser_trace, g_parser_traceLength, .ref h_parser_tree, g_parser_errorParts, g_parser_errorCount, g_parser_stack, g_parser_bringers, g_parser_depth, g_parser_index, g_parser_steps])), (h_parser_tree, .inr (9, [.ref h_parser_tree_symbols, g_parser_tree_parents, g_parser_tree_heights, .int c_parser_tree_count])), (h_parser_tree_symbols, .inl (tc.1, 300, .inl c_parser_tree_symbols))]) (fun v2 => []) (fun v2 => [.int v2]) (fun v2 => ?_) (fun k3 hk3 => ?_)
  · exact j_iret0 C d11_nodeSymbol_31
  · refine j_if_eq C d11_nodeSymbol_11 ?_ ?_
    · refine j_const C d11_nodeSymbol_29 ?_
      exact j_sub [] rfl (hk3 _)
    · refine j_aload C d11_nodeSymbol_14 0 rfl ?_
      refine j_get C d11_nodeSymbol_15 fl11_61 0 rfl rfl ?_
      refine j_get C d11_nodeSymbol_18 fl11_278 1 rfl rfl ?_
      refine j_get C d11_nodeSymbol_21 fl11_286 2 rfl rfl ?_
      refine j_iload C d11_nodeSymbol_24 1 rfl ?_
      refine j_iald C d11_nodeSymbol_25 3 rfl (fun x4 => ?_)
      refine j_goto C d11_nodeSymbol_26 ?_
      exact j_sub [] rfl (hk3 _)

theorem d11_nodeParent_0 : jda cX11_nodeParent 0 0 1 := Or.inl ⟨0, by decide +kernel⟩
theorem d11_nodeParent_1 : jd cX11_nodeParent 1 (.getfield 61) 3 4 := by decide +kernel
theorem d11_nodeParent_4 : jd cX11_nodeParent 4 (.getfield 278) 3 7 := by decide +kernel
theorem d11_nodeParent_7 : jdi cX11_nodeParent 7 1 8 := Or.inl ⟨1, by decide +kernel⟩
theorem d11_nodeParent_8 : jd cX11_nodeParent 8 (.invokevirtual 285) 3 11 := by decide +kernel
theorem d11_nodeParent_11 : jdb cX11_nodeParent 11 (.ifCond .eq 18) 18 29 14 := by decide +kernel
theorem d11_nodeParent_14 : jda cX11_nodeParent 14 0 15 := Or.inl ⟨0, by decide +kernel⟩
theorem d11_nodeParent_15 : jd cX11_nodeParent 15 (.getfield 61) 3 18 := by decide +kernel
theorem d11_nodeParent_18 : jd cX11_nodeParent 18 (.getfield 278) 3 21 := by decide +kernel
theorem d11_nodeParent_21 : jd cX11_nodeParent 21 (.getfield 289) 3 24 := by decide +kernel
theorem d11_nodeParent_24 : jdi cX11_nodeParent 24 1 25 := Or.inl ⟨1, by decide +kernel⟩
theorem d11_nodeParent_25 : jd cX11_nodeParent 25 (.iaload) 1 26 := by decide +kernel
theorem d11_nodeParent_26 : jdb cX11_nodeParent 26 (.goto 5) 5 31 29 := by decide +kernel
theorem d11_nodeParent_29 : jdk cX11_nodeParent 29 (-2) 31 := Or.inr (Or.inl ⟨(-2), by decide +kernel⟩)
theorem d11_nodeParent_31 : decode cX11_nodeParent 31 = .ok (.ireturn, 1) := by decide +kernel
set_option maxHeartbeats 4000000 in
set_option maxRecDepth 100000 in
theorem kX11_nodeParent (l : Launch) (D : va_G) (tc : jTC) (h_ h_parser h_parser_tree h_parser_tree_parents : Nat) (g_rules g_history g_sets g_setsBefore g_table g_failure g_input g_examples g_repairer g_parser_rules g_parser_sets g_parser_table g_parser_input g_parser_synchronizing g_parser_trace g_parser_traceLength g_parser_errorParts g_parser_errorCount g_parser_stack g_parser_bringers g_parser_depth g_parser_index g_parser_steps g_parser_tree_symbols g_parser_tree_heights : Value) (c_parser_tree_parents : (Nat → Int32)) (c_parser_tree_count : Int32) (p1 : Int32) : ctI0 l D tc yX11_nodeParent (Cond.code yX11_nodeParent cX11_nodeParent 2 (some .int) :: jtb) ({ frames := 1, cells := 0, slots := 0, locals := 21 } : Room) [.ref h_, .int p1] [(h_, .inr (11, [g_rules, g_history, g_sets, g_setsBefore, g_table, g_failure, g_input, .ref h_parser, g_examples, g_repairer])), (h_parser, .inr (4, [g_parser_rules, g_parser_sets, g_parser_table, g_parser_input, g_parser_synchronizing, g_parser_trace, g_parser_traceLength, .ref h_parser_tree, g_parser_errorParts, g_parser_errorCount, g_parser_stack, g_parser_bringers, g_parser_depth, g_parser_index, g_parser_steps])), (h_parser_tree, .inr (9, [g_parser_tree_symbols, .ref h_parser_tree_parents, g_parser_tree_heights, .int c_parser_tree_count])), (h_parser_tree_parents, .inl (tc.1, 300, .inl c_parser_tree_parents))] (fX11_nodeParent c_parser_tree_parents c_parser_tree_count p1) := by
  refine ctI0_of (lv0 := [(0, .ref h_), (1, .int p1)]) (by decide +kernel) (Nat.le_of_ble_eq_true rfl) rfl (fun X C => ?_)
  unfold fX11_nodeParent
  refine j_aload C d11_nodeParent_0 0 rfl ?_
  refine j_get C d11_nodeParent_1 fl11_61 0 rfl rfl ?_
  refine j_get C d11_nodeParent_4 fl11_278 1 rfl rfl ?_
  refine j_iload C d11_nodeParent_7 1 rfl ?_
  refine j_callVI0 (As := [.int p1]) C d11_nodeParent_8 mv11_285 (kX9_has _ _ tc h_parser_tree g_parser_tree_symbols (.ref h_parser_tree_parents) g_parser_tree_heights c_parser_tree_count p1) ⟨rfl, rfl, Nat.le_of_ble_eq_true rfl, Nat.le_of_ble_eq_true rfl⟩ rfl 2 rfl [2] rfl rfl rfl (Nat.le_of_ble_eq_true rfl) (fun x1 => ?_)
  refine j_join 31 (fun v2 => [(h_, .inr (11, [g_rules, g_history, g_sets, g_setsBefore, g_table, g_failure, g_input, .ref h_parser, g_examples, g_repairer])), (h_parser, .inr (4, [g_parser_rules, g_parser_sets, g_parser_table, g_parser_input, g_parser_synchronizing, g_parser_trace, g_parser_traceLength, .ref h_parser_tree, g_parser_errorParts, g_parser_errorCount, g_parser_stack, g_parser_bringers, g_parser_depth, g_parser_index, g_parser_steps])), (h_parser_tree, .inr (9, [g_parser_tree_symbols, .ref h_parser_tree_parents, g_parser_tree_heights, .int c_parser_tree_count])), (h_parser_tree_parents, .inl (tc.1, 300, .inl c_parser_tree_parents))]) (fun v2 => []) (fun v2 => [.int v2]) (fun v2 => ?_) (fun k3 hk3 => ?_)
  · exact j_iret0 C d11_nodeParent_31
  · refine j_if_eq C d11_nodeParent_11 ?_ ?_
    · refine j_const C d11_nodeParent_29 ?_
      exact j_sub [] rfl (hk3 _)
    · refine j_aload C d11_nodeParent_14 0 rfl ?_
      refine j_get C d11_nodeParent_15 fl11_61 0 rfl rfl ?_
      refine j_get C d11_nodeParent_18 fl11_278 1 rfl rfl ?_
      refine j_get C d11_nodeParent_21 fl11_289 2 rfl rfl ?_
      refine j_iload C d11_nodeParent_24 1 rfl ?_
      refine j_iald C d11_nodeParent_25 3 rfl (fun x4 => ?_)
      refine j_goto C d11_nodeParent_26 ?_
      exact j_sub [] rfl (hk3 _)

theorem d11_nodeHeight_0 : jda cX11_nodeHeight 0 0 1 := Or.inl ⟨0, by decide +kernel⟩
theorem d11_nodeHeight_1 : jd cX11_nodeHeight 1 (.getfield 61) 3 4 := by decide +kernel
theorem d11_nodeHeight_4 : jd cX11_nodeHeight 4 (.getfield 278) 3 7 := by decide +kernel
theorem d11_nodeHeight_7 : jdi cX11_nodeHeight 7 1 8 := Or.inl ⟨1, by decide +kernel⟩
theorem d11_nodeHeight_8 : jd cX11_nodeHeight 8 (.invokevirtual 285) 3 11 := by decide +kernel
theorem d11_nodeHeight_11 : jdb cX11_nodeHeight 11 (.ifCond .eq 18) 18 29 14 := by decide +kernel
theorem d11_nodeHeight_14 : jda cX11_nodeHeight 14 0 15 := Or.inl ⟨0, by decide +kernel⟩
theorem d11_nodeHeight_15 : jd cX11_nodeHeight 15 (.getfield 61) 3 18 := by decide +kernel
theorem d11_nodeHeight_18 : jd cX11_nodeHeight 18 (.getfield 278) 3 21 := by decide +kernel
theorem d11_nodeHeight_21 : jd cX11_nodeHeight 21 (.getfield 292) 3 24 := by decide +kernel
theorem d11_nodeHeight_24 : jdi cX11_nodeHeight 24 1 25 := Or.inl ⟨1, by decide +kernel⟩
theorem d11_nodeHeight_25 : jd cX11_nodeHeight 25 (.iaload) 1 26 := by decide +kernel
theorem d11_nodeHeight_26 : jdb cX11_nodeHeight 26 (.goto 5) 5 31 29 := by decide +kernel
theorem d11_nodeHeight_29 : jdk cX11_nodeHeight 29 (-2) 31 := Or.inr (Or.inl ⟨(-2), by decide +kernel⟩)
theorem d11_nodeHeight_31 : decode cX11_nodeHeight 31 = .ok (.ireturn, 1) := by decide +kernel
set_option maxHeartbeats 4000000 in
set_option maxRecDepth 100000 in
theorem kX11_nodeHeight (l : Launch) (D : va_G) (tc : jTC) (h_ h_parser h_parser_tree h_parser_tree_heights : Nat) (g_rules g_history g_sets g_setsBefore g_table g_failure g_input g_examples g_repairer g_parser_rules g_parser_sets g_parser_table g_parser_input g_parser_synchronizing g_parser_trace g_parser_traceLength g_parser_errorParts g_parser_errorCount g_parser_stack g_parser_bringers g_parser_depth g_parser_index g_parser_steps g_parser_tree_symbols g_parser_tree_parents : Value) (c_parser_tree_heights : (Nat → Int32)) (c_parser_tree_count : Int32) (p1 : Int32) : ctI0 l D tc yX11_nodeHeight (Cond.code yX11_nodeHeight cX11_nodeHeight 2 (some .int) :: jtb) ({ frames := 1, cells := 0, slots := 0, locals := 21 } : Room) [.ref h_, .int p1] [(h_, .inr (11, [g_rules, g_history, g_sets, g_setsBefore, g_table, g_failure, g_input, .ref h_parser, g_examples, g_repairer])), (h_parser, .inr (4, [g_parser_rules, g_parser_sets, g_parser_table, g_parser_input, g_parser_synchronizing, g_parser_trace, g_parser_traceLength, .ref h_parser_tree, g_parser_errorParts, g_parser_errorCount, g_parser_stack, g_parser_bringers, g_parser_depth, g_parser_index, g_parser_steps])), (h_parser_tree, .inr (9, [g_parser_tree_symbols, g_parser_tree_parents, .ref h_parser_tree_heights, .int c_parser_tree_count])), (h_parser_tree_heights, .inl (tc.1, 300, .inl c_parser_tree_heights))] (fX11_nodeHeight c_parser_tree_heights c_parser_tree_count p1) := by
  refine ctI0_of (lv0 := [(0, .ref h_), (1, .int p1)]) (by decide +kernel) (Nat.le_of_ble_eq_true rfl) rfl (fun X C => ?_)
  unfold fX11_nodeHeight
  refine j_aload C d11_nodeHeight_0 0 rfl ?_
  refine j_get C d11_nodeHeight_1 fl11_61 0 rfl rfl ?_
  refine j_get C d11_nodeHeight_4 fl11_278 1 rfl rfl ?_
  refine j_iload C d11_nodeHeight_7 1 rfl ?_
  refine j_callVI0 (As := [.int p1]) C d11_nodeHeight_8 mv11_285 (kX9_has _ _ tc h_parser_tree g_parser_tree_symbols g_parser_tree_parents (.ref h_parser_tree_heights) c_parser_tree_count p1) ⟨rfl, rfl, Nat.le_of_ble_eq_true rfl, Nat.le_of_ble_eq_true rfl⟩ rfl 2 rfl [2] rfl rfl rfl (Nat.le_of_ble_eq_true rfl) (fun x1 => ?_)
  refine j_join 31 (fun v2 => [(h_, .inr (11, [g_rules, g_history, g_sets, g_setsBefore, g_table, g_failure, g_input, .ref h_parser, g_examples, g_repairer])), (h_parser, .inr (4, [g_parser_rules, g_parser_sets, g_parser_table, g_parser_input, g_parser_synchronizing, g_parser_trace, g_parser_traceLength, .ref h_parser_tree, g_parser_errorParts, g_parser_errorCount, g_parser_stack, g_parser_bringers, g_parser_depth, g_parser_index, g_parser_steps])), (h_parser_tree, .inr (9, [g_parser_tree_symbols, g_parser_tree_parents, .ref h_parser_tree_heights, .int c_parser_tree_count])), (h_parser_tree_heights, .inl (tc.1, 300, .inl c_parser_tree_heights))]) (fun v2 => []) (fun v2 => [.int v2]) (fun v2 => ?_) (fun k3 hk3 => ?_)
  · exact j_iret0 C d11_nodeHeight_31
  · refine j_if_eq C d11_nodeHeight_11 ?_ ?_
    · refine j_const C d11_nodeHeight_29 ?_
      exact j_sub [] rfl (hk3 _)
    · refine j_aload C d11_nodeHeight_14 0 rfl ?_
      refine j_get C d11_nodeHeight_15 fl11_61 0 rfl rfl ?_
      refine j_get C d11_nodeHeight_18 fl11_278 1 rfl rfl ?_
      refine j_get C d11_nodeHeight_21 fl11_292 2 rfl rfl ?_
      refine j_iload C d11_nodeHeight_24 1 rfl ?_
      refine j_iald C d11_nodeHeight_25 3 rfl (fun x4 => ?_)
      refine j_goto C d11_nodeHeight_26 ?_
      exact j_sub [] rfl (hk3 _)

theorem d11_setWeight_0 : jdi cX11_setWeight 0 1 1 := Or.inl ⟨1, by decide +kernel⟩
theorem d11_setWeight_1 : jdb cX11_setWeight 1 (.ifCond .lt 20) 20 21 4 := by decide +kernel
theorem d11_setWeight_4 : jdi cX11_setWeight 4 1 5 := Or.inl ⟨1, by decide +kernel⟩
theorem d11_setWeight_5 : jdk cX11_setWeight 5 8 7 := Or.inr (Or.inl ⟨8, by decide +kernel⟩)
theorem d11_setWeight_7 : jdb cX11_setWeight 7 (.if_icmp .ge 14) 14 21 10 := by decide +kernel
theorem d11_setWeight_10 : jdi cX11_setWeight 10 2 11 := Or.inl ⟨2, by decide +kernel⟩
theorem d11_setWeight_11 : jdk cX11_setWeight 11 1 12 := Or.inl ⟨1, by decide +kernel⟩
theorem d11_setWeight_12 : jdb cX11_setWeight 12 (.if_icmp .lt 9) 9 21 15 := by decide +kernel
theorem d11_setWeight_15 : jdi cX11_setWeight 15 2 16 := Or.inl ⟨2, by decide +kernel⟩
theorem d11_setWeight_16 : jdk cX11_setWeight 16 9 18 := Or.inr (Or.inl ⟨9, by decide +kernel⟩)
theorem d11_setWeight_18 : jdb cX11_setWeight 18 (.if_icmp .le 5) 5 23 21 := by decide +kernel
theorem d11_setWeight_21 : jdk cX11_setWeight 21 (-1) 22 := Or.inl ⟨(-1), by decide +kernel⟩
theorem d11_setWeight_22 : decode cX11_setWeight 22 = .ok (.ireturn, 1) := by decide +kernel
theorem d11_setWeight_23 : jda cX11_setWeight 23 0 24 := Or.inl ⟨0, by decide +kernel⟩
theorem d11_setWeight_24 : jd cX11_setWeight 24 (.getfield 79) 3 27 := by decide +kernel
theorem d11_setWeight_27 : jd cX11_setWeight 27 (.getfield 295) 3 30 := by decide +kernel
theorem d11_setWeight_30 : jdi cX11_setWeight 30 1 31 := Or.inl ⟨1, by decide +kernel⟩
theorem d11_setWeight_31 : jd cX11_setWeight 31 (.iaload) 1 32 := by decide +kernel
theorem d11_setWeight_32 : jds cX11_setWeight 32 3 33 := Or.inl ⟨3, by decide +kernel⟩
theorem d11_setWeight_33 : jda cX11_setWeight 33 0 34 := Or.inl ⟨0, by decide +kernel⟩
theorem d11_setWeight_34 : jd cX11_setWeight 34 (.getfield 79) 3 37 := by decide +kernel
theorem d11_setWeight_37 : jd cX11_setWeight 37 (.getfield 295) 3 40 := by decide +kernel
theorem d11_setWeight_40 : jdi cX11_setWeight 40 1 41 := Or.inl ⟨1, by decide +kernel⟩
theorem d11_setWeight_41 : jdi cX11_setWeight 41 2 42 := Or.inl ⟨2, by decide +kernel⟩
theorem d11_setWeight_42 : jd cX11_setWeight 42 (.iastore) 1 43 := by decide +kernel
theorem d11_setWeight_43 : jdi cX11_setWeight 43 3 44 := Or.inl ⟨3, by decide +kernel⟩
theorem d11_setWeight_44 : decode cX11_setWeight 44 = .ok (.ireturn, 1) := by decide +kernel
set_option maxHeartbeats 4000000 in
set_option maxRecDepth 100000 in
theorem kX11_setWeight (l : Launch) (D : va_G) (tc : jTC) (h_ h_repairer h_repairer_weights : Nat) (g_rules g_history g_sets g_setsBefore g_table g_failure g_input g_parser g_examples g_repairer_rules g_repairer_input g_repairer_words : Value) (c_repairer_weights : (Nat → Int32)) (p1 : Int32) (p2 : Int32) : ctI l D tc yX11_setWeight (Cond.code yX11_setWeight cX11_setWeight 4 (some .int) :: jtb) ({ frames := 0, cells := 0, slots := 0, locals := 0 } : Room) [.ref h_, .int p1, .int p2] [(h_, .inr (11, [g_rules, g_history, g_sets, g_setsBefore, g_table, g_failure, g_input, g_parser, g_examples, .ref h_repairer])), (h_repairer, .inr (5, [g_repairer_rules, g_repairer_input, .ref h_repairer_weights, g_repairer_words])), (h_repairer_weights, .inl (tc.1, 8, .inl c_repairer_weights))] (fX11_setWeight c_repairer_weights p1 p2) (fun (u : (Nat → Int32)) => [(h_, .inr (11, [g_rules, g_history, g_sets, g_setsBefore, g_table, g_failure, g_input, g_parser, g_examples, .ref h_repairer])), (h_repairer, .inr (5, [g_repairer_rules, g_repairer_input, .ref h_repairer_weights, g_repairer_words])), (h_repairer_weights, .inl (tc.1, 8, .inl u))]) := by
  refine ctI_of (lv0 := [(0, .ref h_), (1, .int p1), (2, .int p2)]) (by decide +kernel) (Nat.le_of_ble_eq_true rfl) rfl (fun X C => ?_)
  unfold fX11_setWeight
  refine j_iload C d11_setWeight_0 1 rfl ?_
  refine j_join 21 (fun v1 => [(h_, .inr (11, [g_rules, g_history, g_sets, g_setsBefore, g_table, g_failure, g_input, g_parser, g_examples, .ref h_repairer])), (h_repairer, .inr (5, [g_repairer_rules, g_repairer_input, .ref h_repairer_weights, g_repairer_words])), (h_repairer_weights, .inl (tc.1, 8, .inl c_repairer_weights))]) (fun v1 => []) (fun v1 => []) (fun v1 => ?_) (fun k2 hk2 => ?_)
  · refine j_const C d11_setWeight_21 ?_
    exact j_iret C d11_setWeight_22 rfl
  · refine j_if_lt C d11_setWeight_1 ?_ ?_
    · exact j_sub [] rfl (hk2 _)
    · refine j_iload C d11_setWeight_4 1 rfl ?_
      refine j_const C d11_setWeight_5 ?_
      refine j_icmp_ge C d11_setWeight_7 ?_ ?_
      · exact j_sub [] rfl (hk2 _)
      · refine j_iload C d11_setWeight_10 2 rfl ?_
        refine j_const C d11_setWeight_11 ?_
        refine j_icmp_lt C d11_setWeight_12 ?_ ?_
        · exact j_sub [] rfl (hk2 _)
        · refine j_iload C d11_setWeight_15 2 rfl ?_
          refine j_const C d11_setWeight_16 ?_
          refine j_icmp_le C d11_setWeight_18 ?_ ?_
          · refine j_aload C d11_setWeight_23 0 rfl ?_
            refine j_get C d11_setWeight_24 fl11_79 0 rfl rfl ?_
            refine j_get C d11_setWeight_27 fl11_295 1 rfl rfl ?_
            refine j_iload C d11_setWeight_30 1 rfl ?_
            refine j_iald C d11_setWeight_31 2 rfl (fun x3 => ?_)
            refine j_istore C d11_setWeight_32 (by decide) (lv' := [(3, .int x3), (0, .ref h_), (1, .int p1), (2, .int p2)]) rfl ?_
            refine j_aload C d11_setWeight_33 1 rfl ?_
            refine j_get C d11_setWeight_34 fl11_79 0 rfl rfl ?_
            refine j_get C d11_setWeight_37 fl11_295 1 rfl rfl ?_
            refine j_iload C d11_setWeight_40 2 rfl ?_
            refine j_iload C d11_setWeight_41 3 rfl ?_
            refine j_iast C (fun f4 => [(h_, .inr (11, [g_rules, g_history, g_sets, g_setsBefore, g_table, g_failure, g_input, g_parser, g_examples, .ref h_repairer])), (h_repairer, .inr (5, [g_repairer_rules, g_repairer_input, .ref h_repairer_weights, g_repairer_words])), (h_repairer_weights, .inl (tc.1, 8, .inl f4))]) d11_setWeight_42 2 rfl (fun _ => rfl) (fun f4 => ?_)
            refine j_iload C d11_setWeight_43 0 rfl ?_
            exact j_iret C d11_setWeight_44 rfl
          · exact j_sub [] rfl (hk2 _)

theorem d11_repair_0 : jda cX11_repair 0 0 1 := Or.inl ⟨0, by decide +kernel⟩
theorem d11_repair_1 : jd cX11_repair 1 (.getfield 52) 3 4 := by decide +kernel
theorem d11_repair_4 : jd cX11_repair 4 (.getfield 249) 3 7 := by decide +kernel
theorem d11_repair_7 : jdk cX11_repair 7 8 9 := Or.inr (Or.inl ⟨8, by decide +kernel⟩)
theorem d11_repair_9 : jdb cX11_repair 9 (.if_icmp .le 6) 6 15 12 := by decide +kernel
theorem d11_repair_12 : jdk cX11_repair 12 (-6) 14 := Or.inr (Or.inl ⟨(-6), by decide +kernel⟩)
theorem d11_repair_14 : decode cX11_repair 14 = .ok (.ireturn, 1) := by decide +kernel
theorem d11_repair_15 : jda cX11_repair 15 0 16 := Or.inl ⟨0, by decide +kernel⟩
theorem d11_repair_16 : jd cX11_repair 16 (.getfield 79) 3 19 := by decide +kernel
theorem d11_repair_19 : jd cX11_repair 19 (.invokevirtual 298) 3 22 := by decide +kernel
theorem d11_repair_22 : decode cX11_repair 22 = .ok (.ireturn, 1) := by decide +kernel
set_option maxHeartbeats 4000000 in
set_option maxRecDepth 100000 in
theorem kX11_repair (l : Launch) (D : va_G) (tc : jTC) (N : Nat) (h_ h_rules h_rules_codes h_input h_input_terminals h_repairer h_repairer_weights h_repairer_words h_repairer_words_costs h_repairer_words_highs h_repairer_words_lows : Nat) (g_history g_sets g_setsBefore g_table g_failure g_parser g_examples : Value) (c_rules_codes : (Nat → Int32)) (c_rules_count : Int32) (c_input_terminals : (Nat → Int32)) (c_input_length : Int32) (c_repairer_weights : (Nat → Int32)) (c_repairer_words_costs : (Nat → Int32)) (c_repairer_words_highs : (Nat → Int64)) (c_repairer_words_lows : (Nat → Int64)) : ctI l D tc yX11_repair (Cond.code yX11_repair cX11_repair 1 (some .int) :: jtb) ({ frames := 6, cells := 0, slots := 0, locals := 154 } : Room) [.ref h_] [(h_, .inr (11, [.ref h_rules, g_history, g_sets, g_setsBefore, g_table, g_failure, .ref h_input, g_parser, g_examples, .ref h_repairer])), (h_rules, .inr (6, [.ref h_rules_codes, .int c_rules_count])), (h_rules_codes, .inl (tc.1, 24, .inl c_rules_codes)), (h_input, .inr (3, [.ref h_input_terminals, .int c_input_length])), (h_input_terminals, .inl (tc.1, 40, .inl c_input_terminals)), (h_repairer, .inr (5, [.ref h_rules, .ref h_input, .ref h_repairer_weights, .ref h_repairer_words])), (h_repairer_weights, .inl (tc.1, 8, .inl c_repairer_weights)), (h_repairer_words, .inr (10, [.ref h_repairer_words_costs, .ref h_repairer_words_highs, .ref h_repairer_words_lows])), (h_repairer_words_costs, .inl (tc.1, 1469, .inl c_repairer_words_costs)), (h_repairer_words_highs, .inl (tc.2.1, 1469, .inr (.inl c_repairer_words_highs))), (h_repairer_words_lows, .inl (tc.2.1, 1469, .inr (.inl c_repairer_words_lows)))] (fX11_repair N c_rules_codes c_rules_count c_input_terminals c_input_length c_repairer_weights c_repairer_words_costs c_repairer_words_highs c_repairer_words_lows) (fun (u : (Nat → Int32) × (Nat → Int64) × (Nat → Int64)) => [(h_, .inr (11, [.ref h_rules, g_history, g_sets, g_setsBefore, g_table, g_failure, .ref h_input, g_parser, g_examples, .ref h_repairer])), (h_rules, .inr (6, [.ref h_rules_codes, .int c_rules_count])), (h_rules_codes, .inl (tc.1, 24, .inl c_rules_codes)), (h_input, .inr (3, [.ref h_input_terminals, .int c_input_length])), (h_input_terminals, .inl (tc.1, 40, .inl c_input_terminals)), (h_repairer, .inr (5, [.ref h_rules, .ref h_input, .ref h_repairer_weights, .ref h_repairer_words])), (h_repairer_weights, .inl (tc.1, 8, .inl c_repairer_weights)), (h_repairer_words, .inr (10, [.ref h_repairer_words_costs, .ref h_repairer_words_highs, .ref h_repairer_words_lows])), (h_repairer_words_costs, .inl (tc.1, 1469, .inl u.1)), (h_repairer_words_highs, .inl (tc.2.1, 1469, .inr (.inl u.2.1))), (h_repairer_words_lows, .inl (tc.2.1, 1469, .inr (.inl u.2.2)))]) := by
  refine ctI_of (lv0 := [(0, .ref h_)]) (by decide +kernel) (Nat.le_of_ble_eq_true rfl) rfl (fun X C => ?_)
  unfold fX11_repair
  refine j_aload C d11_repair_0 0 rfl ?_
  refine j_get C d11_repair_1 fl11_52 0 rfl rfl ?_
  refine j_get C d11_repair_4 fl11_249 3 rfl rfl ?_
  refine j_const C d11_repair_7 ?_
  refine j_icmp_le C d11_repair_9 ?_ ?_
  · refine j_aload C d11_repair_15 0 rfl ?_
    refine j_get C d11_repair_16 fl11_79 0 rfl rfl ?_
    refine j_callVI4 (As := []) C d11_repair_19 mv11_298 (kX5_findLeastInsertions _ _ tc N h_repairer h_rules h_rules_codes h_input h_input_terminals h_repairer_weights h_repairer_words h_repairer_words_costs h_repairer_words_highs h_repairer_words_lows c_rules_codes c_rules_count c_input_terminals c_input_length c_repairer_weights c_repairer_words_costs c_repairer_words_highs c_repairer_words_lows) ⟨rfl, rfl, Nat.le_of_ble_eq_true rfl, Nat.le_of_ble_eq_true rfl⟩ rfl 5 rfl [5, 1, 2, 3, 4, 6, 7, 8, 9, 10] rfl rfl rfl (Nat.le_of_ble_eq_true rfl) (fun o1 o2 o3 => [(h_, .inr (11, [.ref h_rules, g_history, g_sets, g_setsBefore, g_table, g_failure, .ref h_input, g_parser, g_examples, .ref h_repairer])), (h_rules, .inr (6, [.ref h_rules_codes, .int c_rules_count])), (h_rules_codes, .inl (tc.1, 24, .inl c_rules_codes)), (h_input, .inr (3, [.ref h_input_terminals, .int c_input_length])), (h_input_terminals, .inl (tc.1, 40, .inl c_input_terminals)), (h_repairer, .inr (5, [.ref h_rules, .ref h_input, .ref h_repairer_weights, .ref h_repairer_words])), (h_repairer_weights, .inl (tc.1, 8, .inl c_repairer_weights)), (h_repairer_words, .inr (10, [.ref h_repairer_words_costs, .ref h_repairer_words_highs, .ref h_repairer_words_lows])), (h_repairer_words_costs, .inl (tc.1, 1469, .inl o1)), (h_repairer_words_highs, .inl (tc.2.1, 1469, .inr (.inl o2))), (h_repairer_words_lows, .inl (tc.2.1, 1469, .inr (.inl o3)))]) (fun _ => rfl) (fun _ => rfl) (fun _ _ _ => rfl) (fun o4 o1 o2 o3 => ?_)
    exact j_iret C d11_repair_22 rfl
  · refine j_const C d11_repair_12 ?_
    exact j_iret C d11_repair_14 rfl

theorem d11_repairedTerminal_0 : jda cX11_repairedTerminal 0 0 1 := Or.inl ⟨0, by decide +kernel⟩
theorem d11_repairedTerminal_1 : jd cX11_repairedTerminal 1 (.getfield 79) 3 4 := by decide +kernel
theorem d11_repairedTerminal_4 : jd cX11_repairedTerminal 4 (.getfield 301) 3 7 := by decide +kernel
theorem d11_repairedTerminal_7 : jdk cX11_repairedTerminal 7 1468 10 := Or.inr (Or.inr ⟨1468, by decide +kernel⟩)
theorem d11_repairedTerminal_10 : jdi cX11_repairedTerminal 10 1 11 := Or.inl ⟨1, by decide +kernel⟩
theorem d11_repairedTerminal_11 : jd cX11_repairedTerminal 11 (.invokevirtual 189) 3 14 := by decide +kernel
theorem d11_repairedTerminal_14 : decode cX11_repairedTerminal 14 = .ok (.ireturn, 1) := by decide +kernel
set_option maxHeartbeats 4000000 in
set_option maxRecDepth 100000 in
theorem kX11_repairedTerminal (l : Launch) (D : va_G) (tc : jTC) (h_ h_repairer h_repairer_words h_repairer_words_costs h_repairer_words_highs h_repairer_words_lows : Nat) (g_rules g_history g_sets g_setsBefore g_table g_failure g_input g_parser g_examples g_repairer_rules g_repairer_input g_repairer_weights : Value) (c_repairer_words_costs : (Nat → Int32)) (c_repairer_words_highs : (Nat → Int64)) (c_repairer_words_lows : (Nat → Int64)) (p1 : Int32) : ctI0 l D tc yX11_repairedTerminal (Cond.code yX11_repairedTerminal cX11_repairedTerminal 2 (some .int) :: jtb) ({ frames := 3, cells := 0, slots := 0, locals := 68 } : Room) [.ref h_, .int p1] [(h_, .inr (11, [g_rules, g_history, g_sets, g_setsBefore, g_table, g_failure, g_input, g_parser, g_examples, .ref h_repairer])), (h_repairer, .inr (5, [g_repairer_rules, g_repairer_input, g_repairer_weights, .ref h_repairer_words])), (h_repairer_words, .inr (10, [.ref h_repairer_words_costs, .ref h_repairer_words_highs, .ref h_repairer_words_lows])), (h_repairer_words_costs, .inl (tc.1, 1469, .inl c_repairer_words_costs)), (h_repairer_words_highs, .inl (tc.2.1, 1469, .inr (.inl c_repairer_words_highs))), (h_repairer_words_lows, .inl (tc.2.1, 1469, .inr (.inl c_repairer_words_lows)))] (fX11_repairedTerminal c_repairer_words_costs c_repairer_words_highs c_repairer_words_lows p1) := by
  refine ctI0_of (lv0 := [(0, .ref h_), (1, .int p1)]) (by decide +kernel) (Nat.le_of_ble_eq_true rfl) rfl (fun X C => ?_)
  unfold fX11_repairedTerminal
  refine j_aload C d11_repairedTerminal_0 0 rfl ?_
  refine j_get C d11_repairedTerminal_1 fl11_79 0 rfl rfl ?_
  refine j_get C d11_repairedTerminal_4 fl11_301 1 rfl rfl ?_
  refine j_const C d11_repairedTerminal_7 ?_
  refine j_iload C d11_repairedTerminal_10 1 rfl ?_
  refine j_callVI0 (As := [.int 1468, .int p1]) C d11_repairedTerminal_11 mv11_189 (kX10_terminalOf _ _ tc 1469 h_repairer_words h_repairer_words_costs h_repairer_words_highs h_repairer_words_lows c_repairer_words_costs c_repairer_words_highs c_repairer_words_lows 1468 p1) ⟨rfl, rfl, Nat.le_of_ble_eq_true rfl, Nat.le_of_ble_eq_true rfl⟩ rfl 2 rfl [2, 3, 4, 5] rfl rfl rfl (Nat.le_of_ble_eq_true rfl) (fun x1 => ?_)
  exact j_iret0 C d11_repairedTerminal_14

theorem d11_failureLevels_0 : jda cX11_failureLevels 0 0 1 := Or.inl ⟨0, by decide +kernel⟩
theorem d11_failureLevels_1 : jd cX11_failureLevels 1 (.getfield 45) 3 4 := by decide +kernel
theorem d11_failureLevels_4 : jd cX11_failureLevels 4 (.getfield 302) 3 7 := by decide +kernel
theorem d11_failureLevels_7 : decode cX11_failureLevels 7 = .ok (.ireturn, 1) := by decide +kernel
set_option maxHeartbeats 4000000 in
set_option maxRecDepth 100000 in
theorem kX11_failureLevels (l : Launch) (D : va_G) (tc : jTC) (h_ h_failure : Nat) (g_rules g_history g_sets g_setsBefore g_table g_input g_parser g_examples g_repairer g_failure_codes g_failure_details : Value) (c_failure_levels : Int32) : ctI0 l D tc yX11_failureLevels (Cond.code yX11_failureLevels cX11_failureLevels 1 (some .int) :: jtb) ({ frames := 0, cells := 0, slots := 0, locals := 0 } : Room) [.ref h_] [(h_, .inr (11, [g_rules, g_history, g_sets, g_setsBefore, g_table, .ref h_failure, g_input, g_parser, g_examples, g_repairer])), (h_failure, .inr (1, [g_failure_codes, g_failure_details, .int c_failure_levels]))] (fX11_failureLevels c_failure_levels) := by
  refine ctI0_of (lv0 := [(0, .ref h_)]) (by decide +kernel) (Nat.le_of_ble_eq_true rfl) rfl (fun X C => ?_)
  unfold fX11_failureLevels
  refine j_aload C d11_failureLevels_0 0 rfl ?_
  refine j_get C d11_failureLevels_1 fl11_45 0 rfl rfl ?_
  refine j_get C d11_failureLevels_4 fl11_302 1 rfl rfl ?_
  exact j_iret0 C d11_failureLevels_7

theorem d11_failureCode_0 : jda cX11_failureCode 0 0 1 := Or.inl ⟨0, by decide +kernel⟩
theorem d11_failureCode_1 : jd cX11_failureCode 1 (.getfield 45) 3 4 := by decide +kernel
theorem d11_failureCode_4 : jdi cX11_failureCode 4 1 5 := Or.inl ⟨1, by decide +kernel⟩
theorem d11_failureCode_5 : jd cX11_failureCode 5 (.invokevirtual 305) 3 8 := by decide +kernel
theorem d11_failureCode_8 : jdb cX11_failureCode 8 (.ifCond .eq 15) 15 23 11 := by decide +kernel
theorem d11_failureCode_11 : jda cX11_failureCode 11 0 12 := Or.inl ⟨0, by decide +kernel⟩
theorem d11_failureCode_12 : jd cX11_failureCode 12 (.getfield 45) 3 15 := by decide +kernel
theorem d11_failureCode_15 : jd cX11_failureCode 15 (.getfield 306) 3 18 := by decide +kernel
theorem d11_failureCode_18 : jdi cX11_failureCode 18 1 19 := Or.inl ⟨1, by decide +kernel⟩
theorem d11_failureCode_19 : jd cX11_failureCode 19 (.iaload) 1 20 := by decide +kernel
theorem d11_failureCode_20 : jdb cX11_failureCode 20 (.goto 5) 5 25 23 := by decide +kernel
theorem d11_failureCode_23 : jdk cX11_failureCode 23 (-2) 25 := Or.inr (Or.inl ⟨(-2), by decide +kernel⟩)
theorem d11_failureCode_25 : decode cX11_failureCode 25 = .ok (.ireturn, 1) := by decide +kernel
set_option maxHeartbeats 4000000 in
set_option maxRecDepth 100000 in
theorem kX11_failureCode (l : Launch) (D : va_G) (tc : jTC) (h_ h_failure h_failure_codes : Nat) (g_rules g_history g_sets g_setsBefore g_table g_input g_parser g_examples g_repairer g_failure_details : Value) (c_failure_codes : (Nat → Int32)) (c_failure_levels : Int32) (p1 : Int32) : ctI0 l D tc yX11_failureCode (Cond.code yX11_failureCode cX11_failureCode 2 (some .int) :: jtb) ({ frames := 1, cells := 0, slots := 0, locals := 21 } : Room) [.ref h_, .int p1] [(h_, .inr (11, [g_rules, g_history, g_sets, g_setsBefore, g_table, .ref h_failure, g_input, g_parser, g_examples, g_repairer])), (h_failure, .inr (1, [.ref h_failure_codes, g_failure_details, .int c_failure_levels])), (h_failure_codes, .inl (tc.1, 3, .inl c_failure_codes))] (fX11_failureCode c_failure_codes c_failure_levels p1) := by
  refine ctI0_of (lv0 := [(0, .ref h_), (1, .int p1)]) (by decide +kernel) (Nat.le_of_ble_eq_true rfl) rfl (fun X C => ?_)
  unfold fX11_failureCode
  refine j_aload C d11_failureCode_0 0 rfl ?_
  refine j_get C d11_failureCode_1 fl11_45 0 rfl rfl ?_
  refine j_iload C d11_failureCode_4 1 rfl ?_
  refine j_callVI0 (As := [.int p1]) C d11_failureCode_5 mv11_305 (kX1_has _ _ tc h_failure (.ref h_failure_codes) g_failure_details c_failure_levels p1) ⟨rfl, rfl, Nat.le_of_ble_eq_true rfl, Nat.le_of_ble_eq_true rfl⟩ rfl 1 rfl [1] rfl rfl rfl (Nat.le_of_ble_eq_true rfl) (fun x1 => ?_)
  refine j_join 25 (fun v2 => [(h_, .inr (11, [g_rules, g_history, g_sets, g_setsBefore, g_table, .ref h_failure, g_input, g_parser, g_examples, g_repairer])), (h_failure, .inr (1, [.ref h_failure_codes, g_failure_details, .int c_failure_levels])), (h_failure_codes, .inl (tc.1, 3, .inl c_failure_codes))]) (fun v2 => []) (fun v2 => [.int v2]) (fun v2 => ?_) (fun k3 hk3 => ?_)
  · exact j_iret0 C d11_failureCode_25
  · refine j_if_eq C d11_failureCode_8 ?_ ?_
    · refine j_const C d11_failureCode_23 ?_
      exact j_sub [] rfl (hk3 _)
    · refine j_aload C d11_failureCode_11 0 rfl ?_
      refine j_get C d11_failureCode_12 fl11_45 0 rfl rfl ?_
      refine j_get C d11_failureCode_15 fl11_306 1 rfl rfl ?_
      refine j_iload C d11_failureCode_18 1 rfl ?_
      refine j_iald C d11_failureCode_19 2 rfl (fun x4 => ?_)
      refine j_goto C d11_failureCode_20 ?_
      exact j_sub [] rfl (hk3 _)

theorem d11_failureDetail_0 : jda cX11_failureDetail 0 0 1 := Or.inl ⟨0, by decide +kernel⟩
theorem d11_failureDetail_1 : jd cX11_failureDetail 1 (.getfield 45) 3 4 := by decide +kernel
theorem d11_failureDetail_4 : jdi cX11_failureDetail 4 1 5 := Or.inl ⟨1, by decide +kernel⟩
theorem d11_failureDetail_5 : jd cX11_failureDetail 5 (.invokevirtual 305) 3 8 := by decide +kernel
theorem d11_failureDetail_8 : jdb cX11_failureDetail 8 (.ifCond .eq 15) 15 23 11 := by decide +kernel
theorem d11_failureDetail_11 : jda cX11_failureDetail 11 0 12 := Or.inl ⟨0, by decide +kernel⟩
theorem d11_failureDetail_12 : jd cX11_failureDetail 12 (.getfield 45) 3 15 := by decide +kernel
theorem d11_failureDetail_15 : jd cX11_failureDetail 15 (.getfield 307) 3 18 := by decide +kernel
theorem d11_failureDetail_18 : jdi cX11_failureDetail 18 1 19 := Or.inl ⟨1, by decide +kernel⟩
theorem d11_failureDetail_19 : jd cX11_failureDetail 19 (.iaload) 1 20 := by decide +kernel
theorem d11_failureDetail_20 : jdb cX11_failureDetail 20 (.goto 5) 5 25 23 := by decide +kernel
theorem d11_failureDetail_23 : jdk cX11_failureDetail 23 (-2) 25 := Or.inr (Or.inl ⟨(-2), by decide +kernel⟩)
theorem d11_failureDetail_25 : decode cX11_failureDetail 25 = .ok (.ireturn, 1) := by decide +kernel
set_option maxHeartbeats 4000000 in
set_option maxRecDepth 100000 in
theorem kX11_failureDetail (l : Launch) (D : va_G) (tc : jTC) (h_ h_failure h_failure_details : Nat) (g_rules g_history g_sets g_setsBefore g_table g_input g_parser g_examples g_repairer g_failure_codes : Value) (c_failure_details : (Nat → Int32)) (c_failure_levels : Int32) (p1 : Int32) : ctI0 l D tc yX11_failureDetail (Cond.code yX11_failureDetail cX11_failureDetail 2 (some .int) :: jtb) ({ frames := 1, cells := 0, slots := 0, locals := 21 } : Room) [.ref h_, .int p1] [(h_, .inr (11, [g_rules, g_history, g_sets, g_setsBefore, g_table, .ref h_failure, g_input, g_parser, g_examples, g_repairer])), (h_failure, .inr (1, [g_failure_codes, .ref h_failure_details, .int c_failure_levels])), (h_failure_details, .inl (tc.1, 3, .inl c_failure_details))] (fX11_failureDetail c_failure_details c_failure_levels p1) := by
  refine ctI0_of (lv0 := [(0, .ref h_), (1, .int p1)]) (by decide +kernel) (Nat.le_of_ble_eq_true rfl) rfl (fun X C => ?_)
  unfold fX11_failureDetail
  refine j_aload C d11_failureDetail_0 0 rfl ?_
  refine j_get C d11_failureDetail_1 fl11_45 0 rfl rfl ?_
  refine j_iload C d11_failureDetail_4 1 rfl ?_
  refine j_callVI0 (As := [.int p1]) C d11_failureDetail_5 mv11_305 (kX1_has _ _ tc h_failure g_failure_codes (.ref h_failure_details) c_failure_levels p1) ⟨rfl, rfl, Nat.le_of_ble_eq_true rfl, Nat.le_of_ble_eq_true rfl⟩ rfl 1 rfl [1] rfl rfl rfl (Nat.le_of_ble_eq_true rfl) (fun x1 => ?_)
  refine j_join 25 (fun v2 => [(h_, .inr (11, [g_rules, g_history, g_sets, g_setsBefore, g_table, .ref h_failure, g_input, g_parser, g_examples, g_repairer])), (h_failure, .inr (1, [g_failure_codes, .ref h_failure_details, .int c_failure_levels])), (h_failure_details, .inl (tc.1, 3, .inl c_failure_details))]) (fun v2 => []) (fun v2 => [.int v2]) (fun v2 => ?_) (fun k3 hk3 => ?_)
  · exact j_iret0 C d11_failureDetail_25
  · refine j_if_eq C d11_failureDetail_8 ?_ ?_
    · refine j_const C d11_failureDetail_23 ?_
      exact j_sub [] rfl (hk3 _)
    · refine j_aload C d11_failureDetail_11 0 rfl ?_
      refine j_get C d11_failureDetail_12 fl11_45 0 rfl rfl ?_
      refine j_get C d11_failureDetail_15 fl11_307 1 rfl rfl ?_
      refine j_iload C d11_failureDetail_18 1 rfl ?_
      refine j_iald C d11_failureDetail_19 2 rfl (fun x4 => ?_)
      refine j_goto C d11_failureDetail_20 ?_
      exact j_sub [] rfl (hk3 _)

theorem d11_endChange_0 : jda cX11_endChange 0 0 1 := Or.inl ⟨0, by decide +kernel⟩
theorem d11_endChange_1 : jd cX11_endChange 1 (.getfield 26) 3 4 := by decide +kernel
theorem d11_endChange_4 : jda cX11_endChange 4 0 5 := Or.inl ⟨0, by decide +kernel⟩
theorem d11_endChange_5 : jd cX11_endChange 5 (.getfield 12) 3 8 := by decide +kernel
theorem d11_endChange_8 : jd cX11_endChange 8 (.invokevirtual 83) 3 11 := by decide +kernel
theorem d11_endChange_11 : jda cX11_endChange 11 0 12 := Or.inl ⟨0, by decide +kernel⟩
theorem d11_endChange_12 : jd cX11_endChange 12 (.getfield 38) 3 15 := by decide +kernel
theorem d11_endChange_15 : jd cX11_endChange 15 (.invokevirtual 315) 3 18 := by decide +kernel
theorem d11_endChange_18 : jda cX11_endChange 18 0 19 := Or.inl ⟨0, by decide +kernel⟩
theorem d11_endChange_19 : jd cX11_endChange 19 (.getfield 70) 3 22 := by decide +kernel
theorem d11_endChange_22 : jd cX11_endChange 22 (.invokevirtual 317) 3 25 := by decide +kernel
theorem d11_endChange_25 : decode cX11_endChange 25 = .ok (.return_, 1) := by decide +kernel
set_option maxHeartbeats 4000000 in
set_option maxRecDepth 100000 in
theorem kX11_endChange (l : Launch) (D : va_G) (tc : jTC) (N : Nat) (h_ h_rules h_rules_codes h_sets h_sets_first h_sets_follow h_table h_table_select h_table_possible h_table_lowest h_examples : Nat) (g_history g_setsBefore g_failure g_input g_parser g_repairer g_sets_begins g_examples_words : Value) (c_rules_codes : (Nat → Int32)) (c_rules_count : Int32) (c_sets_nullable : Int32) (c_sets_first : (Nat → Int32)) (c_sets_follow : (Nat → Int32)) (c_table_select : (Nat → Int32)) (c_table_possible : (Nat → Int32)) (c_table_lowest : (Nat → Int32)) (c_table_conflicts : Int32) (c_examples_plainKnown : Int32) (c_examples_exampleKey : Int32) : ctV l D tc yX11_endChange (Cond.code yX11_endChange cX11_endChange 1 none :: jtb) ({ frames := 5, cells := 0, slots := 0, locals := 114 } : Room) [.ref h_] [(h_, .inr (11, [.ref h_rules, g_history, .ref h_sets, g_setsBefore, .ref h_table, g_failure, g_input, g_parser, .ref h_examples, g_repairer])), (h_rules, .inr (6, [.ref h_rules_codes, .int c_rules_count])), (h_rules_codes, .inl (tc.1, 24, .inl c_rules_codes)), (h_sets, .inr (7, [.int c_sets_nullable, .ref h_sets_first, .ref h_sets_follow, g_sets_begins])), (h_sets_first, .inl (tc.1, 8, .inl c_sets_first)), (h_sets_follow, .inl (tc.1, 8, .inl c_sets_follow)), (h_table, .inr (8, [.ref h_rules, .ref h_sets, .ref h_table_select, .ref h_table_possible, .ref h_table_lowest, .int c_table_conflicts])), (h_table_select, .inl (tc.1, 24, .inl c_table_select)), (h_table_possible, .inl (tc.1, 72, .inl c_table_possible)), (h_table_lowest, .inl (tc.1, 72, .inl c_table_lowest)), (h_examples, .inr (0, [.ref h_rules, g_examples_words, .int c_examples_plainKnown, .int c_examples_exampleKey]))] (fX11_endChange N c_rules_codes c_rules_count c_sets_nullable c_sets_first c_sets_follow c_table_select c_table_possible c_table_lowest c_table_conflicts c_examples_plainKnown c_examples_exampleKey) (fun (u : Int32 × (Nat → Int32) × (Nat → Int32) × (Nat → Int32) × (Nat → Int32) × (Nat → Int32) × Int32 × Int32 × Int32) => [(h_, .inr (11, [.ref h_rules, g_history, .ref h_sets, g_setsBefore, .ref h_table, g_failure, g_input, g_parser, .ref h_examples, g_repairer])), (h_rules, .inr (6, [.ref h_rules_codes, .int c_rules_count])), (h_rules_codes, .inl (tc.1, 24, .inl c_rules_codes)), (h_sets, .inr (7, [.int u.1, .ref h_sets_first, .ref h_sets_follow, g_sets_begins])), (h_sets_first, .inl (tc.1, 8, .inl u.2.1)), (h_sets_follow, .inl (tc.1, 8, .inl u.2.2.1)), (h_table, .inr (8, [.ref h_rules, .ref h_sets, .ref h_table_select, .ref h_table_possible, .ref h_table_lowest, .int u.2.2.2.2.2.2.1])), (h_table_select, .inl (tc.1, 24, .inl u.2.2.2.1)), (h_table_possible, .inl (tc.1, 72, .inl u.2.2.2.2.1)), (h_table_lowest, .inl (tc.1, 72, .inl u.2.2.2.2.2.1)), (h_examples, .inr (0, [.ref h_rules, g_examples_words, .int u.2.2.2.2.2.2.2.1, .int u.2.2.2.2.2.2.2.2]))]) := by
  refine ctV_of (lv0 := [(0, .ref h_)]) (by decide +kernel) (Nat.le_of_ble_eq_true rfl) rfl (fun X C => ?_)
  unfold fX11_endChange
  refine j_aload C d11_endChange_0 0 rfl ?_
  refine j_get C d11_endChange_1 fl11_26 0 rfl rfl ?_
  refine j_aload C d11_endChange_4 0 rfl ?_
  refine j_get C d11_endChange_5 fl11_12 0 rfl rfl ?_
  refine j_callVV3 (As := [.ref h_rules]) C d11_endChange_8 mv11_83 (kX7_compute _ _ tc N h_sets h_sets_first h_sets_follow h_rules h_rules_codes g_sets_begins c_sets_nullable c_sets_first c_sets_follow c_rules_codes c_rules_count) ⟨rfl, rfl, Nat.le_of_ble_eq_true rfl, Nat.le_of_ble_eq_true rfl⟩ rfl 3 rfl [3, 4, 5, 1, 2] rfl rfl rfl (Nat.le_of_ble_eq_true rfl) (fun o1 o2 o3 => [(h_, .inr (11, [.ref h_rules, g_history, .ref h_sets, g_setsBefore, .ref h_table, g_failure, g_input, g_parser, .ref h_examples, g_repairer])), (h_rules, .inr (6, [.ref h_rules_codes, .int c_rules_count])), (h_rules_codes, .inl (tc.1, 24, .inl c_rules_codes)), (h_sets, .inr (7, [.int o1, .ref h_sets_first, .ref h_sets_follow, g_sets_begins])), (h_sets_first, .inl (tc.1, 8, .inl o2)), (h_sets_follow, .inl (tc.1, 8, .inl o3)), (h_table, .inr (8, [.ref h_rules, .ref h_sets, .ref h_table_select, .ref h_table_possible, .ref h_table_lowest, .int c_table_conflicts])), (h_table_select, .inl (tc.1, 24, .inl c_table_select)), (h_table_possible, .inl (tc.1, 72, .inl c_table_possible)), (h_table_lowest, .inl (tc.1, 72, .inl c_table_lowest)), (h_examples, .inr (0, [.ref h_rules, g_examples_words, .int c_examples_plainKnown, .int c_examples_exampleKey]))]) (fun _ => rfl) (fun _ => rfl) (fun _ _ _ => rfl) (fun o1 o2 o3 => ?_)
  refine j_aload C d11_endChange_11 0 rfl ?_
  refine j_get C d11_endChange_12 fl11_38 0 rfl rfl ?_
  refine j_callVV4 (As := []) C d11_endChange_15 mv11_315 (kX8_compute _ _ tc N h_table h_rules h_rules_codes h_sets h_sets_first h_sets_follow h_table_select h_table_possible h_table_lowest g_sets_begins c_rules_codes c_rules_count o1 o2 o3 c_table_select c_table_possible c_table_lowest c_table_conflicts) ⟨rfl, rfl, Nat.le_of_ble_eq_true rfl, Nat.le_of_ble_eq_true rfl⟩ rfl 6 rfl [6, 1, 2, 3, 4, 5, 7, 8, 9] rfl rfl rfl (Nat.le_of_ble_eq_true rfl) (fun o4 o5 o6 o7 => [(h_, .inr (11, [.ref h_rules, g_history, .ref h_sets, g_setsBefore, .ref h_table, g_failure, g_input, g_parser, .ref h_examples, g_repairer])), (h_rules, .inr (6, [.ref h_rules_codes, .int c_rules_count])), (h_rules_codes, .inl (tc.1, 24, .inl c_rules_codes)), (h_sets, .inr (7, [.int o1, .ref h_sets_first, .ref h_sets_follow, g_sets_begins])), (h_sets_first, .inl (tc.1, 8, .inl o2)), (h_sets_follow, .inl (tc.1, 8, .inl o3)), (h_table, .inr (8, [.ref h_rules, .ref h_sets, .ref h_table_select, .ref h_table_possible, .ref h_table_lowest, .int o7])), (h_table_select, .inl (tc.1, 24, .inl o4)), (h_table_possible, .inl (tc.1, 72, .inl o5)), (h_table_lowest, .inl (tc.1, 72, .inl o6)), (h_examples, .inr (0, [.ref h_rules, g_examples_words, .int c_examples_plainKnown, .int c_examples_exampleKey]))]) (fun _ => rfl) (fun _ => rfl) (fun _ _ _ _ => rfl) (fun o4 o5 o6 o7 => ?_)
  refine j_aload C d11_endChange_18 0 rfl ?_
  refine j_get C d11_endChange_19 fl11_70 0 rfl rfl ?_
  refine j_callVV2 (As := []) C d11_endChange_22 mv11_317 (kX0_forget _ _ tc h_examples (.ref h_rules) g_examples_words c_examples_plainKnown c_examples_exampleKey) ⟨rfl, rfl, Nat.le_of_ble_eq_true rfl, Nat.le_of_ble_eq_true rfl⟩ rfl 10 rfl [10] rfl rfl rfl (Nat.le_of_ble_eq_true rfl) (fun o8 o9 => [(h_, .inr (11, [.ref h_rules, g_history, .ref h_sets, g_setsBefore, .ref h_table, g_failure, g_input, g_parser, .ref h_examples, g_repairer])), (h_rules, .inr (6, [.ref h_rules_codes, .int c_rules_count])), (h_rules_codes, .inl (tc.1, 24, .inl c_rules_codes)), (h_sets, .inr (7, [.int o1, .ref h_sets_first, .ref h_sets_follow, g_sets_begins])), (h_sets_first, .inl (tc.1, 8, .inl o2)), (h_sets_follow, .inl (tc.1, 8, .inl o3)), (h_table, .inr (8, [.ref h_rules, .ref h_sets, .ref h_table_select, .ref h_table_possible, .ref h_table_lowest, .int o7])), (h_table_select, .inl (tc.1, 24, .inl o4)), (h_table_possible, .inl (tc.1, 72, .inl o5)), (h_table_lowest, .inl (tc.1, 72, .inl o6)), (h_examples, .inr (0, [.ref h_rules, g_examples_words, .int o8, .int o9]))]) (fun _ => rfl) (fun _ => rfl) (fun _ _ => rfl) (fun o8 o9 => ?_)
  exact j_vret C d11_endChange_25 rfl

theorem d11_reportRewriting_0 : jda cX11_reportRewriting 0 0 1 := Or.inl ⟨0, by decide +kernel⟩
theorem d11_reportRewriting_1 : jd cX11_reportRewriting 1 (.getfield 45) 3 4 := by decide +kernel
theorem d11_reportRewriting_4 : jdk cX11_reportRewriting 4 15 6 := Or.inr (Or.inl ⟨15, by decide +kernel⟩)
theorem d11_reportRewriting_6 : jdi cX11_reportRewriting 6 1 7 := Or.inl ⟨1, by decide +kernel⟩
theorem d11_reportRewriting_7 : jd cX11_reportRewriting 7 (.invokevirtual 105) 3 10 := by decide +kernel
theorem d11_reportRewriting_10 : jda cX11_reportRewriting 10 0 11 := Or.inl ⟨0, by decide +kernel⟩
theorem d11_reportRewriting_11 : jd cX11_reportRewriting 11 (.getfield 45) 3 14 := by decide +kernel
theorem d11_reportRewriting_14 : jdi cX11_reportRewriting 14 2 15 := Or.inl ⟨2, by decide +kernel⟩
theorem d11_reportRewriting_15 : jdi cX11_reportRewriting 15 3 16 := Or.inl ⟨3, by decide +kernel⟩
theorem d11_reportRewriting_16 : jd cX11_reportRewriting 16 (.invokevirtual 109) 3 19 := by decide +kernel
theorem d11_reportRewriting_19 : decode cX11_reportRewriting 19 = .ok (.return_, 1) := by decide +kernel
set_option maxHeartbeats 4000000 in
set_option maxRecDepth 100000 in
theorem kX11_reportRewriting (l : Launch) (D : va_G) (tc : jTC) (h_ h_failure h_failure_codes h_failure_details : Nat) (g_rules g_history g_sets g_setsBefore g_table g_input g_parser g_examples g_repairer : Value) (c_failure_codes : (Nat → Int32)) (c_failure_details : (Nat → Int32)) (c_failure_levels : Int32) (p1 : Int32) (p2 : Int32) (p3 : Int32) : ctV l D tc yX11_reportRewriting (Cond.code yX11_reportRewriting cX11_reportRewriting 4 none :: jtb) ({ frames := 2, cells := 0, slots := 0, locals := 44 } : Room) [.ref h_, .int p1, .int p2, .int p3] [(h_, .inr (11, [g_rules, g_history, g_sets, g_setsBefore, g_table, .ref h_failure, g_input, g_parser, g_examples, g_repairer])), (h_failure, .inr (1, [.ref h_failure_codes, .ref h_failure_details, .int c_failure_levels])), (h_failure_codes, .inl (tc.1, 3, .inl c_failure_codes)), (h_failure_details, .inl (tc.1, 3, .inl c_failure_details))] (fX11_reportRewriting c_failure_codes c_failure_details c_failure_levels p1 p2 p3) (fun (u : (Nat → Int32) × (Nat → Int32) × Int32) => [(h_, .inr (11, [g_rules, g_history, g_sets, g_setsBefore, g_table, .ref h_failure, g_input, g_parser, g_examples, g_repairer])), (h_failure, .inr (1, [.ref h_failure_codes, .ref h_failure_details, .int u.2.2])), (h_failure_codes, .inl (tc.1, 3, .inl u.1)), (h_failure_details, .inl (tc.1, 3, .inl u.2.1))]) := by
  refine ctV_of (lv0 := [(0, .ref h_), (1, .int p1), (2, .int p2), (3, .int p3)]) (by decide +kernel) (Nat.le_of_ble_eq_true rfl) rfl (fun X C => ?_)
  unfold fX11_reportRewriting
  refine j_aload C d11_reportRewriting_0 0 rfl ?_
  refine j_get C d11_reportRewriting_1 fl11_45 0 rfl rfl ?_
  refine j_const C d11_reportRewriting_4 ?_
  refine j_iload C d11_reportRewriting_6 1 rfl ?_
  refine j_callVV3 (As := [.int 15, .int p1]) C d11_reportRewriting_7 mv11_105 (kX1_begin _ _ tc h_failure h_failure_codes h_failure_details c_failure_codes c_failure_details c_failure_levels 15 p1) ⟨rfl, rfl, Nat.le_of_ble_eq_true rfl, Nat.le_of_ble_eq_true rfl⟩ rfl 1 rfl [1, 2, 3] rfl rfl rfl (Nat.le_of_ble_eq_true rfl) (fun o1 o2 o3 => [(h_, .inr (11, [g_rules, g_history, g_sets, g_setsBefore, g_table, .ref h_failure, g_input, g_parser, g_examples, g_repairer])), (h_failure, .inr (1, [.ref h_failure_codes, .ref h_failure_details, .int o3])), (h_failure_codes, .inl (tc.1, 3, .inl o1)), (h_failure_details, .inl (tc.1, 3, .inl o2))]) (fun _ => rfl) (fun _ => rfl) (fun _ _ _ => rfl) (fun o1 o2 o3 => ?_)
  refine j_aload C d11_reportRewriting_10 0 rfl ?_
  refine j_get C d11_reportRewriting_11 fl11_45 0 rfl rfl ?_
  refine j_iload C d11_reportRewriting_14 2 rfl ?_
  refine j_iload C d11_reportRewriting_15 3 rfl ?_
  refine j_callVV3 (As := [.int p2, .int p3]) C d11_reportRewriting_16 mv11_109 (kX1_because _ _ tc h_failure h_failure_codes h_failure_details o1 o2 o3 p2 p3) ⟨rfl, rfl, Nat.le_of_ble_eq_true rfl, Nat.le_of_ble_eq_true rfl⟩ rfl 1 rfl [1, 2, 3] rfl rfl rfl (Nat.le_of_ble_eq_true rfl) (fun o4 o5 o6 => [(h_, .inr (11, [g_rules, g_history, g_sets, g_setsBefore, g_table, .ref h_failure, g_input, g_parser, g_examples, g_repairer])), (h_failure, .inr (1, [.ref h_failure_codes, .ref h_failure_details, .int o6])), (h_failure_codes, .inl (tc.1, 3, .inl o4)), (h_failure_details, .inl (tc.1, 3, .inl o5))]) (fun _ => rfl) (fun _ => rfl) (fun _ _ _ => rfl) (fun o4 o5 o6 => ?_)
  exact j_vret C d11_reportRewriting_19 rfl

theorem d11_leavesNoRoom_0 : jdi cX11_leavesNoRoom 0 2 1 := Or.inl ⟨2, by decide +kernel⟩
theorem d11_leavesNoRoom_1 : jdb cX11_leavesNoRoom 1 (.ifCond .ge 13) 13 14 4 := by decide +kernel
theorem d11_leavesNoRoom_4 : jda cX11_leavesNoRoom 4 0 5 := Or.inl ⟨0, by decide +kernel⟩
theorem d11_leavesNoRoom_5 : jdi cX11_leavesNoRoom 5 1 6 := Or.inl ⟨1, by decide +kernel⟩
theorem d11_leavesNoRoom_6 : jdk cX11_leavesNoRoom 6 16 8 := Or.inr (Or.inl ⟨16, by decide +kernel⟩)
theorem d11_leavesNoRoom_8 : jdk cX11_leavesNoRoom 8 0 9 := Or.inl ⟨0, by decide +kernel⟩
theorem d11_leavesNoRoom_9 : jd cX11_leavesNoRoom 9 (.invokevirtual 320) 3 12 := by decide +kernel
theorem d11_leavesNoRoom_12 : jdk cX11_leavesNoRoom 12 1 13 := Or.inl ⟨1, by decide +kernel⟩
theorem d11_leavesNoRoom_13 : decode cX11_leavesNoRoom 13 = .ok (.ireturn, 1) := by decide +kernel
theorem d11_leavesNoRoom_14 : jda cX11_leavesNoRoom 14 0 15 := Or.inl ⟨0, by decide +kernel⟩
theorem d11_leavesNoRoom_15 : jd cX11_leavesNoRoom 15 (.getfield 12) 3 18 := by decide +kernel
theorem d11_leavesNoRoom_18 : jd cX11_leavesNoRoom 18 (.getfield 112) 3 21 := by decide +kernel
theorem d11_leavesNoRoom_21 : jdk cX11_leavesNoRoom 21 24 23 := Or.inr (Or.inl ⟨24, by decide +kernel⟩)
theorem d11_leavesNoRoom_23 : jdb cX11_leavesNoRoom 23 (.if_icmp .lt 21) 21 44 26 := by decide +kernel
theorem d11_leavesNoRoom_26 : jda cX11_leavesNoRoom 26 0 27 := Or.inl ⟨0, by decide +kernel⟩
theorem d11_leavesNoRoom_27 : jdi cX11_leavesNoRoom 27 1 28 := Or.inl ⟨1, by decide +kernel⟩
theorem d11_leavesNoRoom_28 : jdk cX11_leavesNoRoom 28 17 30 := Or.inr (Or.inl ⟨17, by decide +kernel⟩)
theorem d11_leavesNoRoom_30 : jda cX11_leavesNoRoom 30 0 31 := Or.inl ⟨0, by decide +kernel⟩
theorem d11_leavesNoRoom_31 : jd cX11_leavesNoRoom 31 (.getfield 12) 3 34 := by decide +kernel
theorem d11_leavesNoRoom_34 : jd cX11_leavesNoRoom 34 (.getfield 112) 3 37 := by decide +kernel
theorem d11_leavesNoRoom_37 : jdk cX11_leavesNoRoom 37 1 38 := Or.inl ⟨1, by decide +kernel⟩
theorem d11_leavesNoRoom_38 : jd cX11_leavesNoRoom 38 (.iadd) 1 39 := by decide +kernel
theorem d11_leavesNoRoom_39 : jd cX11_leavesNoRoom 39 (.invokevirtual 320) 3 42 := by decide +kernel
theorem d11_leavesNoRoom_42 : jdk cX11_leavesNoRoom 42 1 43 := Or.inl ⟨1, by decide +kernel⟩
theorem d11_leavesNoRoom_43 : decode cX11_leavesNoRoom 43 = .ok (.ireturn, 1) := by decide +kernel
theorem d11_leavesNoRoom_44 : jdk cX11_leavesNoRoom 44 0 45 := Or.inl ⟨0, by decide +kernel⟩
theorem d11_leavesNoRoom_45 : decode cX11_leavesNoRoom 45 = .ok (.ireturn, 1) := by decide +kernel
set_option maxHeartbeats 4000000 in
set_option maxRecDepth 100000 in
theorem kX11_leavesNoRoom (l : Launch) (D : va_G) (tc : jTC) (h_ h_rules h_failure h_failure_codes h_failure_details : Nat) (g_history g_sets g_setsBefore g_table g_input g_parser g_examples g_repairer g_rules_codes : Value) (c_rules_count : Int32) (c_failure_codes : (Nat → Int32)) (c_failure_details : (Nat → Int32)) (c_failure_levels : Int32) (p1 : Int32) (p2 : Int32) : ctI l D tc yX11_leavesNoRoom (Cond.code yX11_leavesNoRoom cX11_leavesNoRoom 3 (some .boolean) :: jtb) ({ frames := 3, cells := 0, slots := 0, locals := 67 } : Room) [.ref h_, .int p1, .int p2] [(h_, .inr (11, [.ref h_rules, g_history, g_sets, g_setsBefore, g_table, .ref h_failure, g_input, g_parser, g_examples, g_repairer])), (h_rules, .inr (6, [g_rules_codes, .int c_rules_count])), (h_failure, .inr (1, [.ref h_failure_codes, .ref h_failure_details, .int c_failure_levels])), (h_failure_codes, .inl (tc.1, 3, .inl c_failure_codes)), (h_failure_details, .inl (tc.1, 3, .inl c_failure_details))] (fX11_leavesNoRoom c_rules_count c_failure_codes c_failure_details c_failure_levels p1 p2) (fun (u : (Nat → Int32) × (Nat → Int32) × Int32) => [(h_, .inr (11, [.ref h_rules, g_history, g_sets, g_setsBefore, g_table, .ref h_failure, g_input, g_parser, g_examples, g_repairer])), (h_rules, .inr (6, [g_rules_codes, .int c_rules_count])), (h_failure, .inr (1, [.ref h_failure_codes, .ref h_failure_details, .int u.2.2])), (h_failure_codes, .inl (tc.1, 3, .inl u.1)), (h_failure_details, .inl (tc.1, 3, .inl u.2.1))]) := by
  refine ctI_of (lv0 := [(0, .ref h_), (1, .int p1), (2, .int p2)]) (by decide +kernel) (Nat.le_of_ble_eq_true rfl) rfl (fun X C => ?_)
  unfold fX11_leavesNoRoom
  refine j_iload C d11_leavesNoRoom_0 2 rfl ?_
  refine j_if_ge C d11_leavesNoRoom_1 ?_ ?_
  · refine j_aload C d11_leavesNoRoom_14 0 rfl ?_
    refine j_get C d11_leavesNoRoom_15 fl11_12 0 rfl rfl ?_
    refine j_get C d11_leavesNoRoom_18 fl11_112 1 rfl rfl ?_
    refine j_const C d11_leavesNoRoom_21 ?_
    refine j_icmp_lt C d11_leavesNoRoom_23 ?_ ?_
    · refine j_const C d11_leavesNoRoom_44 ?_
      exact j_zret C (by decide) d11_leavesNoRoom_45 rfl
    · refine j_aload C d11_leavesNoRoom_26 0 rfl ?_
      refine j_iload C d11_leavesNoRoom_27 1 rfl ?_
      refine j_const C d11_leavesNoRoom_28 ?_
      refine j_aload C d11_leavesNoRoom_30 0 rfl ?_
      refine j_get C d11_leavesNoRoom_31 fl11_12 0 rfl rfl ?_
      refine j_get C d11_leavesNoRoom_34 fl11_112 1 rfl rfl ?_
      refine j_const C d11_leavesNoRoom_37 ?_
      refine j_iadd C d11_leavesNoRoom_38 ?_
      refine j_callVV3 (As := [.int p1, .int 17, .int (c_rules_count + (1 : Int32))]) C d11_leavesNoRoom_39 mv11_320 (kX11_reportRewriting _ _ tc h_ h_failure h_failure_codes h_failure_details (.ref h_rules) g_history g_sets g_setsBefore g_table g_input g_parser g_examples g_repairer c_failure_codes c_failure_details c_failure_levels p1 17 (c_rules_count + (1 : Int32))) ⟨rfl, rfl, Nat.le_of_ble_eq_true rfl, Nat.le_of_ble_eq_true rfl⟩ rfl 0 rfl [0, 2, 3, 4] rfl rfl rfl (Nat.le_of_ble_eq_true rfl) (fun o1 o2 o3 => [(h_, .inr (11, [.ref h_rules, g_history, g_sets, g_setsBefore, g_table, .ref h_failure, g_input, g_parser, g_examples, g_repairer])), (h_rules, .inr (6, [g_rules_codes, .int c_rules_count])), (h_failure, .inr (1, [.ref h_failure_codes, .ref h_failure_details, .int o3])), (h_failure_codes, .inl (tc.1, 3, .inl o1)), (h_failure_details, .inl (tc.1, 3, .inl o2))]) (fun _ => rfl) (fun _ => rfl) (fun _ _ _ => rfl) (fun o1 o2 o3 => ?_)
      refine j_const C d11_leavesNoRoom_42 ?_
      exact j_zret C (by decide) d11_leavesNoRoom_43 rfl
  · refine j_aload C d11_leavesNoRoom_4 0 rfl ?_
    refine j_iload C d11_leavesNoRoom_5 1 rfl ?_
    refine j_const C d11_leavesNoRoom_6 ?_
    refine j_const C d11_leavesNoRoom_8 ?_
    refine j_callVV3 (As := [.int p1, .int 16, .int 0]) C d11_leavesNoRoom_9 mv11_320 (kX11_reportRewriting _ _ tc h_ h_failure h_failure_codes h_failure_details (.ref h_rules) g_history g_sets g_setsBefore g_table g_input g_parser g_examples g_repairer c_failure_codes c_failure_details c_failure_levels p1 16 0) ⟨rfl, rfl, Nat.le_of_ble_eq_true rfl, Nat.le_of_ble_eq_true rfl⟩ rfl 0 rfl [0, 2, 3, 4] rfl rfl rfl (Nat.le_of_ble_eq_true rfl) (fun o4 o5 o6 => [(h_, .inr (11, [.ref h_rules, g_history, g_sets, g_setsBefore, g_table, .ref h_failure, g_input, g_parser, g_examples, g_repairer])), (h_rules, .inr (6, [g_rules_codes, .int c_rules_count])), (h_failure, .inr (1, [.ref h_failure_codes, .ref h_failure_details, .int o6])), (h_failure_codes, .inl (tc.1, 3, .inl o4)), (h_failure_details, .inl (tc.1, 3, .inl o5))]) (fun _ => rfl) (fun _ => rfl) (fun _ _ _ => rfl) (fun o4 o5 o6 => ?_)
    refine j_const C d11_leavesNoRoom_12 ?_
    exact j_zret C (by decide) d11_leavesNoRoom_13 rfl

theorem d11_hindersRemoval_0 : jda cX11_hindersRemoval 0 0 1 := Or.inl ⟨0, by decide +kernel⟩
theorem d11_hindersRemoval_1 : jd cX11_hindersRemoval 1 (.getfield 12) 3 4 := by decide +kernel
theorem d11_hindersRemoval_4 : jdi cX11_hindersRemoval 4 1 5 := Or.inl ⟨1, by decide +kernel⟩
theorem d11_hindersRemoval_5 : jd cX11_hindersRemoval 5 (.invokestatic 94) 3 8 := by decide +kernel
theorem d11_hindersRemoval_8 : jdk cX11_hindersRemoval 8 10 10 := Or.inr (Or.inl ⟨10, by decide +kernel⟩)
theorem d11_hindersRemoval_10 : jdi cX11_hindersRemoval 10 1 11 := Or.inl ⟨1, by decide +kernel⟩
theorem d11_hindersRemoval_11 : jd cX11_hindersRemoval 11 (.iadd) 1 12 := by decide +kernel
theorem d11_hindersRemoval_12 : jd cX11_hindersRemoval 12 (.invokestatic 324) 3 15 := by decide +kernel
theorem d11_hindersRemoval_15 : jd cX11_hindersRemoval 15 (.invokevirtual 102) 3 18 := by decide +kernel
theorem d11_hindersRemoval_18 : jds cX11_hindersRemoval 18 2 19 := Or.inl ⟨2, by decide +kernel⟩
theorem d11_hindersRemoval_19 : jdi cX11_hindersRemoval 19 2 20 := Or.inl ⟨2, by decide +kernel⟩
theorem d11_hindersRemoval_20 : jdb cX11_hindersRemoval 20 (.ifCond .lt 13) 13 33 23 := by decide +kernel
theorem d11_hindersRemoval_23 : jda cX11_hindersRemoval 23 0 24 := Or.inl ⟨0, by decide +kernel⟩
theorem d11_hindersRemoval_24 : jdi cX11_hindersRemoval 24 1 25 := Or.inl ⟨1, by decide +kernel⟩
theorem d11_hindersRemoval_25 : jdk cX11_hindersRemoval 25 18 27 := Or.inr (Or.inl ⟨18, by decide +kernel⟩)
theorem d11_hindersRemoval_27 : jdi cX11_hindersRemoval 27 2 28 := Or.inl ⟨2, by decide +kernel⟩
theorem d11_hindersRemoval_28 : jd cX11_hindersRemoval 28 (.invokevirtual 320) 3 31 := by decide +kernel
theorem d11_hindersRemoval_31 : jdk cX11_hindersRemoval 31 1 32 := Or.inl ⟨1, by decide +kernel⟩
theorem d11_hindersRemoval_32 : decode cX11_hindersRemoval 32 = .ok (.ireturn, 1) := by decide +kernel
theorem d11_hindersRemoval_33 : jda cX11_hindersRemoval 33 0 34 := Or.inl ⟨0, by decide +kernel⟩
theorem d11_hindersRemoval_34 : jd cX11_hindersRemoval 34 (.getfield 12) 3 37 := by decide +kernel
theorem d11_hindersRemoval_37 : jdi cX11_hindersRemoval 37 1 38 := Or.inl ⟨1, by decide +kernel⟩
theorem d11_hindersRemoval_38 : jd cX11_hindersRemoval 38 (.invokevirtual 327) 3 41 := by decide +kernel
theorem d11_hindersRemoval_41 : jds cX11_hindersRemoval 41 3 42 := Or.inl ⟨3, by decide +kernel⟩
theorem d11_hindersRemoval_42 : jda cX11_hindersRemoval 42 0 43 := Or.inl ⟨0, by decide +kernel⟩
theorem d11_hindersRemoval_43 : jd cX11_hindersRemoval 43 (.getfield 12) 3 46 := by decide +kernel
theorem d11_hindersRemoval_46 : jdi cX11_hindersRemoval 46 1 47 := Or.inl ⟨1, by decide +kernel⟩
theorem d11_hindersRemoval_47 : jd cX11_hindersRemoval 47 (.invokevirtual 227) 3 50 := by decide +kernel
theorem d11_hindersRemoval_50 : jdi cX11_hindersRemoval 50 3 51 := Or.inl ⟨3, by decide +kernel⟩
theorem d11_hindersRemoval_51 : jdb cX11_hindersRemoval 51 (.if_icmp .ne 13) 13 64 54 := by decide +kernel
theorem d11_hindersRemoval_54 : jda cX11_hindersRemoval 54 0 55 := Or.inl ⟨0, by decide +kernel⟩
theorem d11_hindersRemoval_55 : jdi cX11_hindersRemoval 55 1 56 := Or.inl ⟨1, by decide +kernel⟩
theorem d11_hindersRemoval_56 : jdk cX11_hindersRemoval 56 19 58 := Or.inr (Or.inl ⟨19, by decide +kernel⟩)
theorem d11_hindersRemoval_58 : jdi cX11_hindersRemoval 58 3 59 := Or.inl ⟨3, by decide +kernel⟩
theorem d11_hindersRemoval_59 : jd cX11_hindersRemoval 59 (.invokevirtual 320) 3 62 := by decide +kernel
theorem d11_hindersRemoval_62 : jdk cX11_hindersRemoval 62 1 63 := Or.inl ⟨1, by decide +kernel⟩
theorem d11_hindersRemoval_63 : decode cX11_hindersRemoval 63 = .ok (.ireturn, 1) := by decide +kernel
theorem d11_hindersRemoval_64 : jda cX11_hindersRemoval 64 0 65 := Or.inl ⟨0, by decide +kernel⟩
theorem d11_hindersRemoval_65 : jd cX11_hindersRemoval 65 (.getfield 12) 3 68 := by decide +kernel
theorem d11_hindersRemoval_68 : jdi cX11_hindersRemoval 68 1 69 := Or.inl ⟨1, by decide +kernel⟩
theorem d11_hindersRemoval_69 : jd cX11_hindersRemoval 69 (.invokevirtual 330) 3 72 := by decide +kernel
theorem d11_hindersRemoval_72 : jds cX11_hindersRemoval 72 4 74 := Or.inr (by decide +kernel)
theorem d11_hindersRemoval_74 : jdi cX11_hindersRemoval 74 4 76 := Or.inr (by decide +kernel)
theorem d11_hindersRemoval_76 : jdb cX11_hindersRemoval 76 (.ifCond .lt 14) 14 90 79 := by decide +kernel
theorem d11_hindersRemoval_79 : jda cX11_hindersRemoval 79 0 80 := Or.inl ⟨0, by decide +kernel⟩
theorem d11_hindersRemoval_80 : jdi cX11_hindersRemoval 80 1 81 := Or.inl ⟨1, by decide +kernel⟩
theorem d11_hindersRemoval_81 : jdk cX11_hindersRemoval 81 20 83 := Or.inr (Or.inl ⟨20, by decide +kernel⟩)
theorem d11_hindersRemoval_83 : jdi cX11_hindersRemoval 83 4 85 := Or.inr (by decide +kernel)
theorem d11_hindersRemoval_85 : jd cX11_hindersRemoval 85 (.invokevirtual 320) 3 88 := by decide +kernel
theorem d11_hindersRemoval_88 : jdk cX11_hindersRemoval 88 1 89 := Or.inl ⟨1, by decide +kernel⟩
theorem d11_hindersRemoval_89 : decode cX11_hindersRemoval 89 = .ok (.ireturn, 1) := by decide +kernel
theorem d11_hindersRemoval_90 : jdk cX11_hindersRemoval 90 0 91 := Or.inl ⟨0, by decide +kernel⟩
theorem d11_hindersRemoval_91 : decode cX11_hindersRemoval 91 = .ok (.ireturn, 1) := by decide +kernel
set_option maxHeartbeats 4000000 in
set_option maxRecDepth 100000 in
theorem kX11_hindersRemoval (l : Launch) (D : va_G) (tc : jTC) (N : Nat) (h_ h_rules h_rules_codes h_failure h_failure_codes h_failure_details : Nat) (g_history g_sets g_setsBefore g_table g_input g_parser g_examples g_repairer : Value) (c_rules_codes : (Nat → Int32)) (c_rules_count : Int32) (c_failure_codes : (Nat → Int32)) (c_failure_details : (Nat → Int32)) (c_failure_levels : Int32) (p1 : Int32) : ctI l D tc yX11_hindersRemoval (Cond.code yX11_hindersRemoval cX11_hindersRemoval 5 (some .boolean) :: jtb) ({ frames := 3, cells := 0, slots := 0, locals := 67 } : Room) [.ref h_, .int p1] [(h_, .inr (11, [.ref h_rules, g_history, g_sets, g_setsBefore, g_table, .ref h_failure, g_input, g_parser, g_examples, g_repairer])), (h_rules, .inr (6, [.ref h_rules_codes, .int c_rules_count])), (h_rules_codes, .inl (tc.1, 24, .inl c_rules_codes)), (h_failure, .inr (1, [.ref h_failure_codes, .ref h_failure_details, .int c_failure_levels])), (h_failure_codes, .inl (tc.1, 3, .inl c_failure_codes)), (h_failure_details, .inl (tc.1, 3, .inl c_failure_details))] (fX11_hindersRemoval N c_rules_codes c_rules_count c_failure_codes c_failure_details c_failure_levels p1) (fun (u : (Nat → Int32) × (Nat → Int32) × Int32) => [(h_, .inr (11, [.ref h_rules, g_history, g_sets, g_setsBefore, g_table, .ref h_failure, g_input, g_parser, g_examples, g_repairer])), (h_rules, .inr (6, [.ref h_rules_codes, .int c_rules_count])), (h_rules_codes, .inl (tc.1, 24, .inl c_rules_codes)), (h_failure, .inr (1, [.ref h_failure_codes, .ref h_failure_details, .int u.2.2])), (h_failure_codes, .inl (tc.1, 3, .inl u.1)), (h_failure_details, .inl (tc.1, 3, .inl u.2.1))]) := by
  refine ctI_of (lv0 := [(0, .ref h_), (1, .int p1)]) (by decide +kernel) (Nat.le_of_ble_eq_true rfl) rfl (fun X C => ?_)
  unfold fX11_hindersRemoval
  refine j_aload C d11_hindersRemoval_0 0 rfl ?_
  refine j_get C d11_hindersRemoval_1 fl11_12 0 rfl rfl ?_
  refine j_iload C d11_hindersRemoval_4 1 rfl ?_
  refine j_callSI0 (As := [.int p1]) C d11_hindersRemoval_5 ms11_94 (kX6_emptyOf _ _ tc p1) ⟨rfl, rfl, Nat.le_of_ble_eq_true rfl, Nat.le_of_ble_eq_true rfl⟩ rfl [] rfl rfl rfl (Nat.le_of_ble_eq_true rfl) (fun x1 => ?_)
  refine j_const C d11_hindersRemoval_8 ?_
  refine j_iload C d11_hindersRemoval_10 1 rfl ?_
  refine j_iadd C d11_hindersRemoval_11 ?_
  refine j_callSI0 (As := [.int x1, .int ((10 : Int32) + p1)]) C d11_hindersRemoval_12 ms11_324 (kX6_extended _ _ tc x1 ((10 : Int32) + p1)) ⟨rfl, rfl, Nat.le_of_ble_eq_true rfl, Nat.le_of_ble_eq_true rfl⟩ rfl [] rfl rfl rfl (Nat.le_of_ble_eq_true rfl) (fun x2 => ?_)
  refine j_callVI0 (As := [.int x2]) C d11_hindersRemoval_15 mv11_102 (kX6_find _ _ tc N h_rules h_rules_codes c_rules_codes c_rules_count x2) ⟨rfl, rfl, Nat.le_of_ble_eq_true rfl, Nat.le_of_ble_eq_true rfl⟩ rfl 1 rfl [1, 2] rfl rfl rfl (Nat.le_of_ble_eq_true rfl) (fun x3 => ?_)
  refine j_istore C d11_hindersRemoval_18 (by decide) (lv' := [(2, .int x3), (0, .ref h_), (1, .int p1)]) rfl ?_
  refine j_iload C d11_hindersRemoval_19 0 rfl ?_
  refine j_if_lt C d11_hindersRemoval_20 ?_ ?_
  · refine j_aload C d11_hindersRemoval_33 1 rfl ?_
    refine j_get C d11_hindersRemoval_34 fl11_12 0 rfl rfl ?_
    refine j_iload C d11_hindersRemoval_37 2 rfl ?_
    refine j_callVI0 (As := [.int p1]) C d11_hindersRemoval_38 mv11_327 (kX6_productionsOf _ _ tc N h_rules h_rules_codes c_rules_codes c_rules_count p1) ⟨rfl, rfl, Nat.le_of_ble_eq_true rfl, Nat.le_of_ble_eq_true rfl⟩ rfl 1 rfl [1, 2] rfl rfl rfl (Nat.le_of_ble_eq_true rfl) (fun x4 => ?_)
    refine j_istore C d11_hindersRemoval_41 (by decide) (lv' := [(3, .int x4), (2, .int x3), (0, .ref h_), (1, .int p1)]) rfl ?_
    refine j_aload C d11_hindersRemoval_42 2 rfl ?_
    refine j_get C d11_hindersRemoval_43 fl11_12 0 rfl rfl ?_
    refine j_iload C d11_hindersRemoval_46 3 rfl ?_
    refine j_callVI0 (As := [.int p1]) C d11_hindersRemoval_47 mv11_227 (kX6_recursiveOf _ _ tc N h_rules h_rules_codes c_rules_codes c_rules_count p1) ⟨rfl, rfl, Nat.le_of_ble_eq_true rfl, Nat.le_of_ble_eq_true rfl⟩ rfl 1 rfl [1, 2] rfl rfl rfl (Nat.le_of_ble_eq_true rfl) (fun x5 => ?_)
    refine j_iload C d11_hindersRemoval_50 0 rfl ?_
    refine j_icmp_ne C d11_hindersRemoval_51 ?_ ?_
    · refine j_aload C d11_hindersRemoval_64 2 rfl ?_
      refine j_get C d11_hindersRemoval_65 fl11_12 0 rfl rfl ?_
      refine j_iload C d11_hindersRemoval_68 3 rfl ?_
      refine j_callVI0 (As := [.int p1]) C d11_hindersRemoval_69 mv11_330 (kX6_lowestFilledOther _ _ tc N h_rules h_rules_codes c_rules_codes c_rules_count p1) ⟨rfl, rfl, Nat.le_of_ble_eq_true rfl, Nat.le_of_ble_eq_true rfl⟩ rfl 1 rfl [1, 2] rfl rfl rfl (Nat.le_of_ble_eq_true rfl) (fun x6 => ?_)
      refine j_istore C d11_hindersRemoval_72 (by decide) (lv' := [(4, .int x6), (3, .int x4), (2, .int x3), (0, .ref h_), (1, .int p1)]) rfl ?_
      refine j_iload C d11_hindersRemoval_74 0 rfl ?_
      refine j_if_lt C d11_hindersRemoval_76 ?_ ?_
      · refine j_const C d11_hindersRemoval_90 ?_
        exact j_zret C (by decide) d11_hindersRemoval_91 rfl
      · refine j_aload C d11_hindersRemoval_79 3 rfl ?_
        refine j_iload C d11_hindersRemoval_80 4 rfl ?_
        refine j_const C d11_hindersRemoval_81 ?_
        refine j_iload C d11_hindersRemoval_83 0 rfl ?_
        refine j_callVV3 (As := [.int p1, .int 20, .int x6]) C d11_hindersRemoval_85 mv11_320 (kX11_reportRewriting _ _ tc h_ h_failure h_failure_codes h_failure_details (.ref h_rules) g_history g_sets g_setsBefore g_table g_input g_parser g_examples g_repairer c_failure_codes c_failure_details c_failure_levels p1 20 x6) ⟨rfl, rfl, Nat.le_of_ble_eq_true rfl, Nat.le_of_ble_eq_true rfl⟩ rfl 0 rfl [0, 3, 4, 5] rfl rfl rfl (Nat.le_of_ble_eq_true rfl) (fun o7 o8 o9 => [(h_, .inr (11, [.ref h_rules, g_history, g_sets, g_setsBefore, g_table, .ref h_failure, g_input, g_parser, g_examples, g_repairer])), (h_rules, .inr (6, [.ref h_rules_codes, .int c_rules_count])), (h_rules_codes, .inl (tc.1, 24, .inl c_rules_codes)), (h_failure, .inr (1, [.ref h_failure_codes, .ref h_failure_details, .int o9])), (h_failure_codes, .inl (tc.1, 3, .inl o7)), (h_failure_details, .inl (tc.1, 3, .inl o8))]) (fun _ => rfl) (fun _ => rfl) (fun _ _ _ => rfl) (fun o7 o8 o9 => ?_)
        refine j_const C d11_hindersRemoval_88 ?_
        exact j_zret C (by decide) d11_hindersRemoval_89 rfl
    · refine j_aload C d11_hindersRemoval_54 2 rfl ?_
      refine j_iload C d11_hindersRemoval_55 3 rfl ?_
      refine j_const C d11_hindersRemoval_56 ?_
      refine j_iload C d11_hindersRemoval_58 0 rfl ?_
      refine j_callVV3 (As := [.int p1, .int 19, .int x4]) C d11_hindersRemoval_59 mv11_320 (kX11_reportRewriting _ _ tc h_ h_failure h_failure_codes h_failure_details (.ref h_rules) g_history g_sets g_setsBefore g_table g_input g_parser g_examples g_repairer c_failure_codes c_failure_details c_failure_levels p1 19 x4) ⟨rfl, rfl, Nat.le_of_ble_eq_true rfl, Nat.le_of_ble_eq_true rfl⟩ rfl 0 rfl [0, 3, 4, 5] rfl rfl rfl (Nat.le_of_ble_eq_true rfl) (fun o10 o11 o12 => [(h_, .inr (11, [.ref h_rules, g_history, g_sets, g_setsBefore, g_table, .ref h_failure, g_input, g_parser, g_examples, g_repairer])), (h_rules, .inr (6, [.ref h_rules_codes, .int c_rules_count])), (h_rules_codes, .inl (tc.1, 24, .inl c_rules_codes)), (h_failure, .inr (1, [.ref h_failure_codes, .ref h_failure_details, .int o12])), (h_failure_codes, .inl (tc.1, 3, .inl o10)), (h_failure_details, .inl (tc.1, 3, .inl o11))]) (fun _ => rfl) (fun _ => rfl) (fun _ _ _ => rfl) (fun o10 o11 o12 => ?_)
      refine j_const C d11_hindersRemoval_62 ?_
      exact j_zret C (by decide) d11_hindersRemoval_63 rfl
  · refine j_aload C d11_hindersRemoval_23 1 rfl ?_
    refine j_iload C d11_hindersRemoval_24 2 rfl ?_
    refine j_const C d11_hindersRemoval_25 ?_
    refine j_iload C d11_hindersRemoval_27 0 rfl ?_
    refine j_callVV3 (As := [.int p1, .int 18, .int x3]) C d11_hindersRemoval_28 mv11_320 (kX11_reportRewriting _ _ tc h_ h_failure h_failure_codes h_failure_details (.ref h_rules) g_history g_sets g_setsBefore g_table g_input g_parser g_examples g_repairer c_failure_codes c_failure_details c_failure_levels p1 18 x3) ⟨rfl, rfl, Nat.le_of_ble_eq_true rfl, Nat.le_of_ble_eq_true rfl⟩ rfl 0 rfl [0, 3, 4, 5] rfl rfl rfl (Nat.le_of_ble_eq_true rfl) (fun o13 o14 o15 => [(h_, .inr (11, [.ref h_rules, g_history, g_sets, g_setsBefore, g_table, .ref h_failure, g_input, g_parser, g_examples, g_repairer])), (h_rules, .inr (6, [.ref h_rules_codes, .int c_rules_count])), (h_rules_codes, .inl (tc.1, 24, .inl c_rules_codes)), (h_failure, .inr (1, [.ref h_failure_codes, .ref h_failure_details, .int o15])), (h_failure_codes, .inl (tc.1, 3, .inl o13)), (h_failure_details, .inl (tc.1, 3, .inl o14))]) (fun _ => rfl) (fun _ => rfl) (fun _ _ _ => rfl) (fun o13 o14 o15 => ?_)
    refine j_const C d11_hindersRemoval_31 ?_
    exact j_zret C (by decide) d11_hindersRemoval_32 rfl

theorem d12_in_0 : jdi cX12_in 0 0 1 := Or.inl ⟨0, by decide +kernel⟩
theorem d12_in_1 : jdi cX12_in 1 1 2 := Or.inl ⟨1, by decide +kernel⟩
theorem d12_in_2 : jdb cX12_in 2 (.if_icmp .lt 12) 12 14 5 := by decide +kernel
theorem d12_in_5 : jdi cX12_in 5 0 6 := Or.inl ⟨0, by decide +kernel⟩
theorem d12_in_6 : jdi cX12_in 6 2 7 := Or.inl ⟨2, by decide +kernel⟩
theorem d12_in_7 : jdb cX12_in 7 (.if_icmp .gt 7) 7 14 10 := by decide +kernel
theorem d12_in_10 : jdk cX12_in 10 1 11 := Or.inl ⟨1, by decide +kernel⟩
theorem d12_in_11 : jdb cX12_in 11 (.goto 4) 4 15 14 := by decide +kernel
theorem d12_in_14 : jdk cX12_in 14 0 15 := Or.inl ⟨0, by decide +kernel⟩
theorem d12_in_15 : decode cX12_in 15 = .ok (.ireturn, 1) := by decide +kernel
set_option maxHeartbeats 4000000 in
set_option maxRecDepth 100000 in
theorem kX12_in (l : Launch) (D : va_G) (tc : jTC) (p0 : Int32) (p1 : Int32) (p2 : Int32) : ctI0 l D tc yX12_in (Cond.code yX12_in cX12_in 3 (some .boolean) :: jtb) ({ frames := 0, cells := 0, slots := 0, locals := 0 } : Room) [.int p0, .int p1, .int p2] [] (fX12_in p0 p1 p2) := by
  refine ctI0_of (lv0 := [(0, .int p0), (1, .int p1), (2, .int p2)]) (by decide +kernel) (Nat.le_of_ble_eq_true rfl) rfl (fun X C => ?_)
  unfold fX12_in
  refine j_iload C d12_in_0 0 rfl ?_
  refine j_iload C d12_in_1 1 rfl ?_
  refine j_join 15 (fun v1 => []) (fun v1 => []) (fun v1 => [.int v1]) (fun v1 => ?_) (fun k2 hk2 => ?_)
  · refine j_gz (fun hz => ?_)
    exact j_zret0 C hz d12_in_15
  · refine j_join 14 (fun v3 => []) (fun v3 => []) (fun v3 => []) (fun v3 => ?_) (fun k4 hk4 => ?_)
    · refine j_const C d12_in_14 ?_
      exact hk2 _
    · refine j_icmp_lt C d12_in_2 ?_ ?_
      · exact j_sub [] rfl (hk4 _)
      · refine j_iload C d12_in_5 0 rfl ?_
        refine j_iload C d12_in_6 2 rfl ?_
        refine j_icmp_gt C d12_in_7 ?_ ?_
        · exact j_sub [] rfl (hk4 _)
        · refine j_const C d12_in_10 ?_
          refine j_goto C d12_in_11 ?_
          exact j_sub [] rfl (hk2 _)

theorem d12_isName_0 : jdi cX12_isName 0 0 1 := Or.inl ⟨0, by decide +kernel⟩
theorem d12_isName_1 : jdk cX12_isName 1 0 2 := Or.inl ⟨0, by decide +kernel⟩
theorem d12_isName_2 : jdk cX12_isName 2 7 4 := Or.inr (Or.inl ⟨7, by decide +kernel⟩)
theorem d12_isName_4 : jd cX12_isName 4 (.invokestatic 119) 3 7 := by decide +kernel
theorem d12_isName_7 : decode cX12_isName 7 = .ok (.ireturn, 1) := by decide +kernel
set_option maxHeartbeats 4000000 in
set_option maxRecDepth 100000 in
theorem kX12_isName (l : Launch) (D : va_G) (tc : jTC) (p0 : Int32) : ctI0 l D tc yX12_isName (Cond.code yX12_isName cX12_isName 1 (some .boolean) :: jtb) ({ frames := 1, cells := 0, slots := 0, locals := 22 } : Room) [.int p0] [] (fX12_isName p0) := by
  refine ctI0_of (lv0 := [(0, .int p0)]) (by decide +kernel) (Nat.le_of_ble_eq_true rfl) rfl (fun X C => ?_)
  unfold fX12_isName
  refine j_iload C d12_isName_0 0 rfl ?_
  refine j_const C d12_isName_1 ?_
  refine j_const C d12_isName_2 ?_
  refine j_callSI0 (As := [.int p0, .int 0, .int 7]) C d12_isName_4 ms12_119 (kX12_in _ _ tc p0 0 7) ⟨rfl, rfl, Nat.le_of_ble_eq_true rfl, Nat.le_of_ble_eq_true rfl⟩ rfl [] rfl rfl rfl (Nat.le_of_ble_eq_true rfl) (fun x1 => ?_)
  refine j_gz (fun hz => ?_)
  exact j_zret0 C hz d12_isName_7

theorem d12_isSymbol_0 : jdi cX12_isSymbol 0 0 1 := Or.inl ⟨0, by decide +kernel⟩
theorem d12_isSymbol_1 : jdk cX12_isSymbol 1 0 2 := Or.inl ⟨0, by decide +kernel⟩
theorem d12_isSymbol_2 : jdk cX12_isSymbol 2 7 4 := Or.inr (Or.inl ⟨7, by decide +kernel⟩)
theorem d12_isSymbol_4 : jd cX12_isSymbol 4 (.invokestatic 119) 3 7 := by decide +kernel
theorem d12_isSymbol_7 : jdb cX12_isSymbol 7 (.ifCond .ne 14) 14 21 10 := by decide +kernel
theorem d12_isSymbol_10 : jdi cX12_isSymbol 10 0 11 := Or.inl ⟨0, by decide +kernel⟩
theorem d12_isSymbol_11 : jdk cX12_isSymbol 11 10 13 := Or.inr (Or.inl ⟨10, by decide +kernel⟩)
theorem d12_isSymbol_13 : jdk cX12_isSymbol 13 17 15 := Or.inr (Or.inl ⟨17, by decide +kernel⟩)
theorem d12_isSymbol_15 : jd cX12_isSymbol 15 (.invokestatic 119) 3 18 := by decide +kernel
theorem d12_isSymbol_18 : jdb cX12_isSymbol 18 (.ifCond .eq 7) 7 25 21 := by decide +kernel
theorem d12_isSymbol_21 : jdk cX12_isSymbol 21 1 22 := Or.inl ⟨1, by decide +kernel⟩
theorem d12_isSymbol_22 : jdb cX12_isSymbol 22 (.goto 4) 4 26 25 := by decide +kernel
theorem d12_isSymbol_25 : jdk cX12_isSymbol 25 0 26 := Or.inl ⟨0, by decide +kernel⟩
theorem d12_isSymbol_26 : decode cX12_isSymbol 26 = .ok (.ireturn, 1) := by decide +kernel
set_option maxHeartbeats 4000000 in
set_option maxRecDepth 100000 in
theorem kX12_isSymbol (l : Launch) (D : va_G) (tc : jTC) (p0 : Int32) : ctI0 l D tc yX12_isSymbol (Cond.code yX12_isSymbol cX12_isSymbol 1 (some .boolean) :: jtb) ({ frames := 1, cells := 0, slots := 0, locals := 22 } : Room) [.int p0] [] (fX12_isSymbol p0) := by
  refine ctI0_of (lv0 := [(0, .int p0)]) (by decide +kernel) (Nat.le_of_ble_eq_true rfl) rfl (fun X C => ?_)
  unfold fX12_isSymbol
  refine j_iload C d12_isSymbol_0 0 rfl ?_
  refine j_const C d12_isSymbol_1 ?_
  refine j_const C d12_isSymbol_2 ?_
  refine j_callSI0 (As := [.int p0, .int 0, .int 7]) C d12_isSymbol_4 ms12_119 (kX12_in _ _ tc p0 0 7) ⟨rfl, rfl, Nat.le_of_ble_eq_true rfl, Nat.le_of_ble_eq_true rfl⟩ rfl [] rfl rfl rfl (Nat.le_of_ble_eq_true rfl) (fun x1 => ?_)
  refine j_join 26 (fun v2 => []) (fun v2 => []) (fun v2 => [.int v2]) (fun v2 => ?_) (fun k3 hk3 => ?_)
  · refine j_gz (fun hz => ?_)
    exact j_zret0 C hz d12_isSymbol_26
  · refine j_join 21 (fun v4 => []) (fun v4 => []) (fun v4 => []) (fun v4 => ?_) (fun k5 hk5 => ?_)
    · refine j_const C d12_isSymbol_21 ?_
      refine j_goto C d12_isSymbol_22 ?_
      exact hk3 _
    · refine j_if_ne C d12_isSymbol_7 ?_ ?_
      · exact j_sub [] rfl (hk5 _)
      · refine j_iload C d12_isSymbol_10 0 rfl ?_
        refine j_const C d12_isSymbol_11 ?_
        refine j_const C d12_isSymbol_13 ?_
        refine j_callSI0 (As := [.int p0, .int 10, .int 17]) C d12_isSymbol_15 ms12_119 (kX12_in _ _ tc p0 10 17) ⟨rfl, rfl, Nat.le_of_ble_eq_true rfl, Nat.le_of_ble_eq_true rfl⟩ rfl [] rfl rfl rfl (Nat.le_of_ble_eq_true rfl) (fun x6 => ?_)
        refine j_if_eq C d12_isSymbol_18 ?_ ?_
        · refine j_const C d12_isSymbol_25 ?_
          exact j_sub [] rfl (hk3 _)
        · exact j_sub [] rfl (hk5 _)

theorem d12_isRule_0 : jdi cX12_isRule 0 1 1 := Or.inl ⟨1, by decide +kernel⟩
theorem d12_isRule_1 : jdk cX12_isRule 1 0 2 := Or.inl ⟨0, by decide +kernel⟩
theorem d12_isRule_2 : jda cX12_isRule 2 0 3 := Or.inl ⟨0, by decide +kernel⟩
theorem d12_isRule_3 : jd cX12_isRule 3 (.getfield 123) 3 6 := by decide +kernel
theorem d12_isRule_6 : jdk cX12_isRule 6 1 7 := Or.inl ⟨1, by decide +kernel⟩
theorem d12_isRule_7 : jd cX12_isRule 7 (.isub) 1 8 := by decide +kernel
theorem d12_isRule_8 : jd cX12_isRule 8 (.invokestatic 119) 3 11 := by decide +kernel
theorem d12_isRule_11 : decode cX12_isRule 11 = .ok (.ireturn, 1) := by decide +kernel
set_option maxHeartbeats 4000000 in
set_option maxRecDepth 100000 in
theorem kX12_isRule (l : Launch) (D : va_G) (tc : jTC) (h_ : Nat) (g_lefts g_sizes g_rights g_edits g_pastRules g_pastLefts g_pastSizes g_pastRights g_levels g_codes g_details g_asked g_isWorked g_empties g_firsts g_follows g_isKept g_keptEmpties g_keptFirsts g_keptFollows g_strings g_longs g_trial g_trialLong g_foundName g_foundToken g_foundP g_foundQ g_moved g_movedSizes g_synchronizing g_input g_inputLong g_stack g_stackParents g_top g_at g_steps g_traced g_traces g_nodes g_made g_nodeSymbols g_nodeParents g_errors g_errorAts g_errorKinds g_errorTops g_weights g_bests g_bestLongs g_partly g_partlyLongs g_repaired g_repairedLong : Value) (c_rules : Int32) (p1 : Int32) : ctI0 l D tc yX12_isRule (Cond.code yX12_isRule cX12_isRule 2 (some .boolean) :: jtb) ({ frames := 1, cells := 0, slots := 0, locals := 22 } : Room) [.ref h_, .int p1] [(h_, .inr (12, [.int c_rules, g_lefts, g_sizes, g_rights, g_edits, g_pastRules, g_pastLefts, g_pastSizes, g_pastRights, g_levels, g_codes, g_details, g_asked, g_isWorked, g_empties, g_firsts, g_follows, g_isKept, g_keptEmpties, g_keptFirsts, g_keptFollows, g_strings, g_longs, g_trial, g_trialLong, g_foundName, g_foundToken, g_foundP, g_foundQ, g_moved, g_movedSizes, g_synchronizing, g_input, g_inputLong, g_stack, g_stackParents, g_top, g_at, g_steps, g_traced, g_traces, g_nodes, g_made, g_nodeSymbols, g_nodeParents, g_errors, g_errorAts, g_errorKinds, g_errorTops, g_weights, g_bests, g_bestLongs, g_partly, g_partlyLongs, g_repaired, g_repairedLong]))] (fX12_isRule c_rules p1) := by
  refine ctI0_of (lv0 := [(0, .ref h_), (1, .int p1)]) (by decide +kernel) (Nat.le_of_ble_eq_true rfl) rfl (fun X C => ?_)
  unfold fX12_isRule
  refine j_iload C d12_isRule_0 1 rfl ?_
  refine j_const C d12_isRule_1 ?_
  refine j_aload C d12_isRule_2 0 rfl ?_
  refine j_get C d12_isRule_3 fl12_123 0 rfl rfl ?_
  refine j_const C d12_isRule_6 ?_
  refine j_isub C d12_isRule_7 ?_
  refine j_callSI0 (As := [.int p1, .int 0, .int (c_rules - (1 : Int32))]) C d12_isRule_8 ms12_119 (kX12_in _ _ tc p1 0 (c_rules - (1 : Int32))) ⟨rfl, rfl, Nat.le_of_ble_eq_true rfl, Nat.le_of_ble_eq_true rfl⟩ rfl [] rfl rfl rfl (Nat.le_of_ble_eq_true rfl) (fun x1 => ?_)
  refine j_gz (fun hz => ?_)
  exact j_zret0 C hz d12_isRule_11

theorem d12_symbol_0 : jda cX12_symbol 0 0 1 := Or.inl ⟨0, by decide +kernel⟩
theorem d12_symbol_1 : jd cX12_symbol 1 (.getfield 16) 3 4 := by decide +kernel
theorem d12_symbol_4 : jdk cX12_symbol 4 5 5 := Or.inl ⟨5, by decide +kernel⟩
theorem d12_symbol_5 : jdi cX12_symbol 5 1 6 := Or.inl ⟨1, by decide +kernel⟩
theorem d12_symbol_6 : jd cX12_symbol 6 (.imul) 1 7 := by decide +kernel
theorem d12_symbol_7 : jdi cX12_symbol 7 2 8 := Or.inl ⟨2, by decide +kernel⟩
theorem d12_symbol_8 : jd cX12_symbol 8 (.iadd) 1 9 := by decide +kernel
theorem d12_symbol_9 : jd cX12_symbol 9 (.iaload) 1 10 := by decide +kernel
theorem d12_symbol_10 : decode cX12_symbol 10 = .ok (.ireturn, 1) := by decide +kernel
set_option maxHeartbeats 4000000 in
set_option maxRecDepth 100000 in
theorem kX12_symbol (l : Launch) (D : va_G) (tc : jTC) (h_ h_rights : Nat) (g_rules g_lefts g_sizes g_edits g_pastRules g_pastLefts g_pastSizes g_pastRights g_levels g_codes g_details g_asked g_isWorked g_empties g_firsts g_follows g_isKept g_keptEmpties g_keptFirsts g_keptFollows g_strings g_longs g_trial g_trialLong g_foundName g_foundToken g_foundP g_foundQ g_moved g_movedSizes g_synchronizing g_input g_inputLong g_stack g_stackParents g_top g_at g_steps g_traced g_traces g_nodes g_made g_nodeSymbols g_nodeParents g_errors g_errorAts g_errorKinds g_errorTops g_weights g_bests g_bestLongs g_partly g_partlyLongs g_repaired g_repairedLong : Value) (c_rights : (Nat → Int32)) (p1 : Int32) (p2 : Int32) : ctI0 l D tc yX12_symbol (Cond.code yX12_symbol cX12_symbol 3 (some .int) :: jtb) ({ frames := 0, cells := 0, slots := 0, locals := 0 } : Room) [.ref h_, .int p1, .int p2] [(h_, .inr (12, [g_rules, g_lefts, g_sizes, .ref h_rights, g_edits, g_pastRules, g_pastLefts, g_pastSizes, g_pastRights, g_levels, g_codes, g_details, g_asked, g_isWorked, g_empties, g_firsts, g_follows, g_isKept, g_keptEmpties, g_keptFirsts, g_keptFollows, g_strings, g_longs, g_trial, g_trialLong, g_foundName, g_foundToken, g_foundP, g_foundQ, g_moved, g_movedSizes, g_synchronizing, g_input, g_inputLong, g_stack, g_stackParents, g_top, g_at, g_steps, g_traced, g_traces, g_nodes, g_made, g_nodeSymbols, g_nodeParents, g_errors, g_errorAts, g_errorKinds, g_errorTops, g_weights, g_bests, g_bestLongs, g_partly, g_partlyLongs, g_repaired, g_repairedLong])), (h_rights, .inl (tc.1, 120, .inl c_rights))] (fX12_symbol c_rights p1 p2) := by
  refine ctI0_of (lv0 := [(0, .ref h_), (1, .int p1), (2, .int p2)]) (by decide +kernel) (Nat.le_of_ble_eq_true rfl) rfl (fun X C => ?_)
  unfold fX12_symbol
  refine j_aload C d12_symbol_0 0 rfl ?_
  refine j_get C d12_symbol_1 fl12_16 0 rfl rfl ?_
  refine j_const C d12_symbol_4 ?_
  refine j_iload C d12_symbol_5 1 rfl ?_
  refine j_imul C d12_symbol_6 ?_
  refine j_iload C d12_symbol_7 2 rfl ?_
  refine j_iadd C d12_symbol_8 ?_
  refine j_iald C d12_symbol_9 1 rfl (fun x1 => ?_)
  exact j_iret0 C d12_symbol_10

theorem d12_lays_0 : jda cX12_lays 0 0 1 := Or.inl ⟨0, by decide +kernel⟩
theorem d12_lays_1 : jd cX12_lays 1 (.getfield 19) 3 4 := by decide +kernel
theorem d12_lays_4 : jdi cX12_lays 4 1 5 := Or.inl ⟨1, by decide +kernel⟩
theorem d12_lays_5 : jda cX12_lays 5 0 6 := Or.inl ⟨0, by decide +kernel⟩
theorem d12_lays_6 : jd cX12_lays 6 (.getfield 123) 3 9 := by decide +kernel
theorem d12_lays_9 : jd cX12_lays 9 (.iastore) 1 10 := by decide +kernel
theorem d12_lays_10 : jdk cX12_lays 10 0 11 := Or.inl ⟨0, by decide +kernel⟩
theorem d12_lays_11 : jds cX12_lays 11 2 12 := Or.inl ⟨2, by decide +kernel⟩
theorem d12_lays_12 : jdi cX12_lays 12 2 13 := Or.inl ⟨2, by decide +kernel⟩
theorem d12_lays_13 : jdk cX12_lays 13 24 15 := Or.inr (Or.inl ⟨24, by decide +kernel⟩)
theorem d12_lays_15 : jdb cX12_lays 15 (.if_icmp .ge 43) 43 58 18 := by decide +kernel
theorem d12_lays_18 : jda cX12_lays 18 0 19 := Or.inl ⟨0, by decide +kernel⟩
theorem d12_lays_19 : jd cX12_lays 19 (.getfield 22) 3 22 := by decide +kernel
theorem d12_lays_22 : jdk cX12_lays 22 24 24 := Or.inr (Or.inl ⟨24, by decide +kernel⟩)
theorem d12_lays_24 : jdi cX12_lays 24 1 25 := Or.inl ⟨1, by decide +kernel⟩
theorem d12_lays_25 : jd cX12_lays 25 (.imul) 1 26 := by decide +kernel
theorem d12_lays_26 : jdi cX12_lays 26 2 27 := Or.inl ⟨2, by decide +kernel⟩
theorem d12_lays_27 : jd cX12_lays 27 (.iadd) 1 28 := by decide +kernel
theorem d12_lays_28 : jda cX12_lays 28 0 29 := Or.inl ⟨0, by decide +kernel⟩
theorem d12_lays_29 : jd cX12_lays 29 (.getfield 9) 3 32 := by decide +kernel
theorem d12_lays_32 : jdi cX12_lays 32 2 33 := Or.inl ⟨2, by decide +kernel⟩
theorem d12_lays_33 : jd cX12_lays 33 (.iaload) 1 34 := by decide +kernel
theorem d12_lays_34 : jd cX12_lays 34 (.iastore) 1 35 := by decide +kernel
theorem d12_lays_35 : jda cX12_lays 35 0 36 := Or.inl ⟨0, by decide +kernel⟩
theorem d12_lays_36 : jd cX12_lays 36 (.getfield 25) 3 39 := by decide +kernel
theorem d12_lays_39 : jdk cX12_lays 39 24 41 := Or.inr (Or.inl ⟨24, by decide +kernel⟩)
theorem d12_lays_41 : jdi cX12_lays 41 1 42 := Or.inl ⟨1, by decide +kernel⟩
theorem d12_lays_42 : jd cX12_lays 42 (.imul) 1 43 := by decide +kernel
theorem d12_lays_43 : jdi cX12_lays 43 2 44 := Or.inl ⟨2, by decide +kernel⟩
theorem d12_lays_44 : jd cX12_lays 44 (.iadd) 1 45 := by decide +kernel
theorem d12_lays_45 : jda cX12_lays 45 0 46 := Or.inl ⟨0, by decide +kernel⟩
theorem d12_lays_46 : jd cX12_lays 46 (.getfield 13) 3 49 := by decide +kernel
theorem d12_lays_49 : jdi cX12_lays 49 2 50 := Or.inl ⟨2, by decide +kernel⟩
theorem d12_lays_50 : jd cX12_lays 50 (.iaload) 1 51 := by decide +kernel
theorem d12_lays_51 : jd cX12_lays 51 (.iastore) 1 52 := by decide +kernel
theorem d12_lays_52 : jd cX12_lays 52 (.iinc 2 1) 3 55 := by decide +kernel
theorem d12_lays_55 : jdb cX12_lays 55 (.goto (-43)) (-43) 12 58 := by decide +kernel
theorem d12_lays_58 : jdk cX12_lays 58 0 59 := Or.inl ⟨0, by decide +kernel⟩
theorem d12_lays_59 : jds cX12_lays 59 2 60 := Or.inl ⟨2, by decide +kernel⟩
theorem d12_lays_60 : jdi cX12_lays 60 2 61 := Or.inl ⟨2, by decide +kernel⟩
theorem d12_lays_61 : jdk cX12_lays 61 120 63 := Or.inr (Or.inl ⟨120, by decide +kernel⟩)
theorem d12_lays_63 : jdb cX12_lays 63 (.if_icmp .ge 26) 26 89 66 := by decide +kernel
theorem d12_lays_66 : jda cX12_lays 66 0 67 := Or.inl ⟨0, by decide +kernel⟩
theorem d12_lays_67 : jd cX12_lays 67 (.getfield 28) 3 70 := by decide +kernel
theorem d12_lays_70 : jdk cX12_lays 70 120 72 := Or.inr (Or.inl ⟨120, by decide +kernel⟩)
theorem d12_lays_72 : jdi cX12_lays 72 1 73 := Or.inl ⟨1, by decide +kernel⟩
theorem d12_lays_73 : jd cX12_lays 73 (.imul) 1 74 := by decide +kernel
theorem d12_lays_74 : jdi cX12_lays 74 2 75 := Or.inl ⟨2, by decide +kernel⟩
theorem d12_lays_75 : jd cX12_lays 75 (.iadd) 1 76 := by decide +kernel
theorem d12_lays_76 : jda cX12_lays 76 0 77 := Or.inl ⟨0, by decide +kernel⟩
theorem d12_lays_77 : jd cX12_lays 77 (.getfield 16) 3 80 := by decide +kernel
theorem d12_lays_80 : jdi cX12_lays 80 2 81 := Or.inl ⟨2, by decide +kernel⟩
theorem d12_lays_81 : jd cX12_lays 81 (.iaload) 1 82 := by decide +kernel
theorem d12_lays_82 : jd cX12_lays 82 (.iastore) 1 83 := by decide +kernel
theorem d12_lays_83 : jd cX12_lays 83 (.iinc 2 1) 3 86 := by decide +kernel
theorem d12_lays_86 : jdb cX12_lays 86 (.goto (-26)) (-26) 60 89 := by decide +kernel
theorem d12_lays_89 : decode cX12_lays 89 = .ok (.return_, 1) := by decide +kernel
set_option maxHeartbeats 4000000 in
set_option maxRecDepth 100000 in
theorem wX12_lays_60 {X : jC} {tc : jTC} (C : jx X cX12_lays 3 RX12 none tc ({ frames := 0, cells := 0, slots := 0, locals := 0 } : Room)) (h_ h_lefts h_sizes h_rights h_pastRules h_pastLefts h_pastSizes h_pastRights : Nat) (g_edits g_levels g_codes g_details g_asked g_isWorked g_empties g_firsts g_follows g_isKept g_keptEmpties g_keptFirsts g_keptFollows g_strings g_longs g_trial g_trialLong g_foundName g_foundToken g_foundP g_foundQ g_moved g_movedSizes g_synchronizing g_input g_inputLong g_stack g_stackParents g_top g_at g_steps g_traced g_traces g_nodes g_made g_nodeSymbols g_nodeParents g_errors g_errorAts g_errorKinds g_errorTops g_weights g_bests g_bestLongs g_partly g_partlyLongs g_repaired g_repairedLong : Value) (p1 : Int32) (c_rules : Int32) (c_lefts : (Nat → Int32)) (c_sizes : (Nat → Int32)) (c_rights : (Nat → Int32)) (f1 : (Nat → Int32)) (v2 : (Nat → Int32)) (v3 : (Nat → Int32)) (k5 : ((Nat → Int32) → Option ((Nat → Int32) × (Nat → Int32) × (Nat → Int32) × (Nat → Int32)))) (hk5 : ∀ (v12 : (Nat → Int32)), jo X 3 (0, 0) (jQV X (fun (u : (Nat → Int32) × (Nat → Int32) × (Nat → Int32) × (Nat → Int32)) => [(h_, .inr (12, [.int c_rules, .ref h_lefts, .ref h_sizes, .ref h_rights, g_edits, .ref h_pastRules, .ref h_pastLefts, .ref h_pastSizes, .ref h_pastRights, g_levels, g_codes, g_details, g_asked, g_isWorked, g_empties, g_firsts, g_follows, g_isKept, g_keptEmpties, g_keptFirsts, g_keptFollows, g_strings, g_longs, g_trial, g_trialLong, g_foundName, g_foundToken, g_foundP, g_foundQ, g_moved, g_movedSizes, g_synchronizing, g_input, g_inputLong, g_stack, g_stackParents, g_top, g_at, g_steps, g_traced, g_traces, g_nodes, g_made, g_nodeSymbols, g_nodeParents, g_errors, g_errorAts, g_errorKinds, g_errorTops, g_weights, g_bests, g_bestLongs, g_partly, g_partlyLongs, g_repaired, g_repairedLong])), (h_lefts, .inl (tc.1, 24, .inl c_lefts)), (h_sizes, .inl (tc.1, 24, .inl c_sizes)), (h_rights, .inl (tc.1, 120, .inl c_rights)), (h_pastRules, .inl (tc.1, 10, .inl u.1)), (h_pastLefts, .inl (tc.1, 240, .inl u.2.1)), (h_pastSizes, .inl (tc.1, 240, .inl u.2.2.1)), (h_pastRights, .inl (tc.1, 1200, .inl u.2.2.2))])) (k5 v12) [(h_, .inr (12, [.int c_rules, .ref h_lefts, .ref h_sizes, .ref h_rights, g_edits, .ref h_pastRules, .ref h_pastLefts, .ref h_pastSizes, .ref h_pastRights, g_levels, g_codes, g_details, g_asked, g_isWorked, g_empties, g_firsts, g_follows, g_isKept, g_keptEmpties, g_keptFirsts, g_keptFollows, g_strings, g_longs, g_trial, g_trialLong, g_foundName, g_foundToken, g_foundP, g_foundQ, g_moved, g_movedSizes, g_synchronizing, g_input, g_inputLong, g_stack, g_stackParents, g_top, g_at, g_steps, g_traced, g_traces, g_nodes, g_made, g_nodeSymbols, g_nodeParents, g_errors, g_errorAts, g_errorKinds, g_errorTops, g_weights, g_bests, g_bestLongs, g_partly, g_partlyLongs, g_repaired, g_repairedLong])), (h_lefts, .inl (tc.1, 24, .inl c_lefts)), (h_sizes, .inl (tc.1, 24, .inl c_sizes)), (h_rights, .inl (tc.1, 120, .inl c_rights)), (h_pastRules, .inl (tc.1, 10, .inl f1)), (h_pastLefts, .inl (tc.1, 240, .inl v2)), (h_pastSizes, .inl (tc.1, 240, .inl v3)), (h_pastRights, .inl (tc.1, 1200, .inl v12))] 89 [] []) (rc8 : Int32 → (Nat → Int32) → Option ((Nat → Int32) × (Nat → Int32) × (Nat → Int32) × (Nat → Int32))) (hrc8 : ∀ (v6 : Int32) (v7 : (Nat → Int32)), jo X 3 (0, 0) (jQV X (fun (u : (Nat → Int32) × (Nat → Int32) × (Nat → Int32) × (Nat → Int32)) => [(h_, .inr (12, [.int c_rules, .ref h_lefts, .ref h_sizes, .ref h_rights, g_edits, .ref h_pastRules, .ref h_pastLefts, .ref h_pastSizes, .ref h_pastRights, g_levels, g_codes, g_details, g_asked, g_isWorked, g_empties, g_firsts, g_follows, g_isKept, g_keptEmpties, g_keptFirsts, g_keptFollows, g_strings, g_longs, g_trial, g_trialLong, g_foundName, g_foundToken, g_foundP, g_foundQ, g_moved, g_movedSizes, g_synchronizing, g_input, g_inputLong, g_stack, g_stackParents, g_top, g_at, g_steps, g_traced, g_traces, g_nodes, g_made, g_nodeSymbols, g_nodeParents, g_errors, g_errorAts, g_errorKinds, g_errorTops, g_weights, g_bests, g_bestLongs, g_partly, g_partlyLongs, g_repaired, g_repairedLong])), (h_lefts, .inl (tc.1, 24, .inl c_lefts)), (h_sizes, .inl (tc.1, 24, .inl c_sizes)), (h_rights, .inl (tc.1, 120, .inl c_rights)), (h_pastRules, .inl (tc.1, 10, .inl u.1)), (h_pastLefts, .inl (tc.1, 240, .inl u.2.1)), (h_pastSizes, .inl (tc.1, 240, .inl u.2.2.1)), (h_pastRights, .inl (tc.1, 1200, .inl u.2.2.2))])) (rc8 v6 v7) [(h_, .inr (12, [.int c_rules, .ref h_lefts, .ref h_sizes, .ref h_rights, g_edits, .ref h_pastRules, .ref h_pastLefts, .ref h_pastSizes, .ref h_pastRights, g_levels, g_codes, g_details, g_asked, g_isWorked, g_empties, g_firsts, g_follows, g_isKept, g_keptEmpties, g_keptFirsts, g_keptFollows, g_strings, g_longs, g_trial, g_trialLong, g_foundName, g_foundToken, g_foundP, g_foundQ, g_moved, g_movedSizes, g_synchronizing, g_input, g_inputLong, g_stack, g_stackParents, g_top, g_at, g_steps, g_traced, g_traces, g_nodes, g_made, g_nodeSymbols, g_nodeParents, g_errors, g_errorAts, g_errorKinds, g_errorTops, g_weights, g_bests, g_bestLongs, g_partly, g_partlyLongs, g_repaired, g_repairedLong])), (h_lefts, .inl (tc.1, 24, .inl c_lefts)), (h_sizes, .inl (tc.1, 24, .inl c_sizes)), (h_rights, .inl (tc.1, 120, .inl c_rights)), (h_pastRules, .inl (tc.1, 10, .inl f1)), (h_pastLefts, .inl (tc.1, 240, .inl v2)), (h_pastSizes, .inl (tc.1, 240, .inl v3)), (h_pastRights, .inl (tc.1, 1200, .inl v7))] 60 [(0, .ref h_), (1, .int p1), (2, .int v6)] []) (v6 : Int32) (v7 : (Nat → Int32)) : jo X 3 (0, 0) (jQV X (fun (u : (Nat → Int32) × (Nat → Int32) × (Nat → Int32) × (Nat → Int32)) => [(h_, .inr (12, [.int c_rules, .ref h_lefts, .ref h_sizes, .ref h_rights, g_edits, .ref h_pastRules, .ref h_pastLefts, .ref h_pastSizes, .ref h_pastRights, g_levels, g_codes, g_details, g_asked, g_isWorked, g_empties, g_firsts, g_follows, g_isKept, g_keptEmpties, g_keptFirsts, g_keptFollows, g_strings, g_longs, g_trial, g_trialLong, g_foundName, g_foundToken, g_foundP, g_foundQ, g_moved, g_movedSizes, g_synchronizing, g_input, g_inputLong, g_stack, g_stackParents, g_top, g_at, g_steps, g_traced, g_traces, g_nodes, g_made, g_nodeSymbols, g_nodeParents, g_errors, g_errorAts, g_errorKinds, g_errorTops, g_weights, g_bests, g_bestLongs, g_partly, g_partlyLongs, g_repaired, g_repairedLong])), (h_lefts, .inl (tc.1, 24, .inl c_lefts)), (h_sizes, .inl (tc.1, 24, .inl c_sizes)), (h_rights, .inl (tc.1, 120, .inl c_rights)), (h_pastRules, .inl (tc.1, 10, .inl u.1)), (h_pastLefts, .inl (tc.1, 240, .inl u.2.1)), (h_pastSizes, .inl (tc.1, 240, .inl u.2.2.1)), (h_pastRights, .inl (tc.1, 1200, .inl u.2.2.2))])) (bX12_lays_60 p1 c_rights k5 rc8 v6 v7) [(h_, .inr (12, [.int c_rules, .ref h_lefts, .ref h_sizes, .ref h_rights, g_edits, .ref h_pastRules, .ref h_pastLefts, .ref h_pastSizes, .ref h_pastRights, g_levels, g_codes, g_details, g_asked, g_isWorked, g_empties, g_firsts, g_follows, g_isKept, g_keptEmpties, g_keptFirsts, g_keptFollows, g_strings, g_longs, g_trial, g_trialLong, g_foundName, g_foundToken, g_foundP, g_foundQ, g_moved, g_movedSizes, g_synchronizing, g_input, g_inputLong, g_stack, g_stackParents, g_top, g_at, g_steps, g_traced, g_traces, g_nodes, g_made, g_nodeSymbols, g_nodeParents, g_errors, g_errorAts, g_errorKinds, g_errorTops, g_weights, g_bests, g_bestLongs, g_partly, g_partlyLongs, g_repaired, g_repairedLong])), (h_lefts, .inl (tc.1, 24, .inl c_lefts)), (h_sizes, .inl (tc.1, 24, .inl c_sizes)), (h_rights, .inl (tc.1, 120, .inl c_rights)), (h_pastRules, .inl (tc.1, 10, .inl f1)), (h_pastLefts, .inl (tc.1, 240, .inl v2)), (h_pastSizes, .inl (tc.1, 240, .inl v3)), (h_pastRights, .inl (tc.1, 1200, .inl v7))] 60 [(0, .ref h_), (1, .int p1), (2, .int v6)] [] := by
  unfold bX12_lays_60
  refine j_iload C d12_lays_60 2 rfl ?_
  refine j_const C d12_lays_61 ?_
  refine j_icmp_ge C d12_lays_63 ?_ ?_
  · exact j_sub [] rfl (hk5 _)
  · refine j_aload C d12_lays_66 0 rfl ?_
    refine j_get C d12_lays_67 fl12_28 0 rfl rfl ?_
    refine j_const C d12_lays_70 ?_
    refine j_iload C d12_lays_72 1 rfl ?_
    refine j_imul C d12_lays_73 ?_
    refine j_iload C d12_lays_74 2 rfl ?_
    refine j_iadd C d12_lays_75 ?_
    refine j_aload C d12_lays_76 0 rfl ?_
    refine j_get C d12_lays_77 fl12_16 0 rfl rfl ?_
    refine j_iload C d12_lays_80 2 rfl ?_
    refine j_iald C d12_lays_81 3 rfl (fun x9 => ?_)
    refine j_iast C (fun f10 => [(h_, .inr (12, [.int c_rules, .ref h_lefts, .ref h_sizes, .ref h_rights, g_edits, .ref h_pastRules, .ref h_pastLefts, .ref h_pastSizes, .ref h_pastRights, g_levels, g_codes, g_details, g_asked, g_isWorked, g_empties, g_firsts, g_follows, g_isKept, g_keptEmpties, g_keptFirsts, g_keptFollows, g_strings, g_longs, g_trial, g_trialLong, g_foundName, g_foundToken, g_foundP, g_foundQ, g_moved, g_movedSizes, g_synchronizing, g_input, g_inputLong, g_stack, g_stackParents, g_top, g_at, g_steps, g_traced, g_traces, g_nodes, g_made, g_nodeSymbols, g_nodeParents, g_errors, g_errorAts, g_errorKinds, g_errorTops, g_weights, g_bests, g_bestLongs, g_partly, g_partlyLongs, g_repaired, g_repairedLong])), (h_lefts, .inl (tc.1, 24, .inl c_lefts)), (h_sizes, .inl (tc.1, 24, .inl c_sizes)), (h_rights, .inl (tc.1, 120, .inl c_rights)), (h_pastRules, .inl (tc.1, 10, .inl f1)), (h_pastLefts, .inl (tc.1, 240, .inl v2)), (h_pastSizes, .inl (tc.1, 240, .inl v3)), (h_pastRights, .inl (tc.1, 1200, .inl f10))]) d12_lays_82 7 rfl (fun _ => rfl) (fun f10 => ?_)
    refine j_iincN C (fun x11 => [(2, .int x11), (0, .ref h_), (1, .int p1)]) d12_lays_83 2 rfl (by decide +kernel) (by decide) (fun _ => rfl) (fun x11 => ?_)
    refine j_goto C d12_lays_86 ?_
    exact j_sub [1, 2, 0] rfl (hrc8 _ _)

set_option maxHeartbeats 4000000 in
set_option maxRecDepth 100000 in
theorem wX12_lays_12 {X : jC} {tc : jTC} (C : jx X cX12_lays 3 RX12 none tc ({ frames := 0, cells := 0, slots := 0, locals := 0 } : Room)) (h_ h_lefts h_sizes h_rights h_pastRules h_pastLefts h_pastSizes h_pastRights : Nat) (g_edits g_levels g_codes g_details g_asked g_isWorked g_empties g_firsts g_follows g_isKept g_keptEmpties g_keptFirsts g_keptFollows g_strings g_longs g_trial g_trialLong g_foundName g_foundToken g_foundP g_foundQ g_moved g_movedSizes g_synchronizing g_input g_inputLong g_stack g_stackParents g_top g_at g_steps g_traced g_traces g_nodes g_made g_nodeSymbols g_nodeParents g_errors g_errorAts g_errorKinds g_errorTops g_weights g_bests g_bestLongs g_partly g_partlyLongs g_repaired g_repairedLong : Value) (p1 : Int32) (c_rules : Int32) (c_lefts : (Nat → Int32)) (c_sizes : (Nat → Int32)) (c_rights : (Nat → Int32)) (c_pastRights : (Nat → Int32)) (f1 : (Nat → Int32)) (k13 : ((Nat → Int32) → (Nat → Int32) → Option ((Nat → Int32) × (Nat → Int32) × (Nat → Int32) × (Nat → Int32)))) (hk13 : ∀ (v23 : (Nat → Int32)) (v24 : (Nat → Int32)), jo X 3 (0, 0) (jQV X (fun (u : (Nat → Int32) × (Nat → Int32) × (Nat → Int32) × (Nat → Int32)) => [(h_, .inr (12, [.int c_rules, .ref h_lefts, .ref h_sizes, .ref h_rights, g_edits, .ref h_pastRules, .ref h_pastLefts, .ref h_pastSizes, .ref h_pastRights, g_levels, g_codes, g_details, g_asked, g_isWorked, g_empties, g_firsts, g_follows, g_isKept, g_keptEmpties, g_keptFirsts, g_keptFollows, g_strings, g_longs, g_trial, g_trialLong, g_foundName, g_foundToken, g_foundP, g_foundQ, g_moved, g_movedSizes, g_synchronizing, g_input, g_inputLong, g_stack, g_stackParents, g_top, g_at, g_steps, g_traced, g_traces, g_nodes, g_made, g_nodeSymbols, g_nodeParents, g_errors, g_errorAts, g_errorKinds, g_errorTops, g_weights, g_bests, g_bestLongs, g_partly, g_partlyLongs, g_repaired, g_repairedLong])), (h_lefts, .inl (tc.1, 24, .inl c_lefts)), (h_sizes, .inl (tc.1, 24, .inl c_sizes)), (h_rights, .inl (tc.1, 120, .inl c_rights)), (h_pastRules, .inl (tc.1, 10, .inl u.1)), (h_pastLefts, .inl (tc.1, 240, .inl u.2.1)), (h_pastSizes, .inl (tc.1, 240, .inl u.2.2.1)), (h_pastRights, .inl (tc.1, 1200, .inl u.2.2.2))])) (k13 v23 v24) [(h_, .inr (12, [.int c_rules, .ref h_lefts, .ref h_sizes, .ref h_rights, g_edits, .ref h_pastRules, .ref h_pastLefts, .ref h_pastSizes, .ref h_pastRights, g_levels, g_codes, g_details, g_asked, g_isWorked, g_empties, g_firsts, g_follows, g_isKept, g_keptEmpties, g_keptFirsts, g_keptFollows, g_strings, g_longs, g_trial, g_trialLong, g_foundName, g_foundToken, g_foundP, g_foundQ, g_moved, g_movedSizes, g_synchronizing, g_input, g_inputLong, g_stack, g_stackParents, g_top, g_at, g_steps, g_traced, g_traces, g_nodes, g_made, g_nodeSymbols, g_nodeParents, g_errors, g_errorAts, g_errorKinds, g_errorTops, g_weights, g_bests, g_bestLongs, g_partly, g_partlyLongs, g_repaired, g_repairedLong])), (h_lefts, .inl (tc.1, 24, .inl c_lefts)), (h_sizes, .inl (tc.1, 24, .inl c_sizes)), (h_rights, .inl (tc.1, 120, .inl c_rights)), (h_pastRules, .inl (tc.1, 10, .inl f1)), (h_pastLefts, .inl (tc.1, 240, .inl v23)), (h_pastSizes, .inl (tc.1, 240, .inl v24)), (h_pastRights, .inl (tc.1, 1200, .inl c_pastRights))] 58 [(0, .ref h_), (1, .int p1)] []) (rc17 : Int32 → (Nat → Int32) → (Nat → Int32) → Option ((Nat → Int32) × (Nat → Int32) × (Nat → Int32) × (Nat → Int32))) (hrc17 : ∀ (v14 : Int32) (v15 : (Nat → Int32)) (v16 : (Nat → Int32)), jo X 3 (0, 0) (jQV X (fun (u : (Nat → Int32) × (Nat → Int32) × (Nat → Int32) × (Nat → Int32)) => [(h_, .inr (12, [.int c_rules, .ref h_lefts, .ref h_sizes, .ref h_rights, g_edits, .ref h_pastRules, .ref h_pastLefts, .ref h_pastSizes, .ref h_pastRights, g_levels, g_codes, g_details, g_asked, g_isWorked, g_empties, g_firsts, g_follows, g_isKept, g_keptEmpties, g_keptFirsts, g_keptFollows, g_strings, g_longs, g_trial, g_trialLong, g_foundName, g_foundToken, g_foundP, g_foundQ, g_moved, g_movedSizes, g_synchronizing, g_input, g_inputLong, g_stack, g_stackParents, g_top, g_at, g_steps, g_traced, g_traces, g_nodes, g_made, g_nodeSymbols, g_nodeParents, g_errors, g_errorAts, g_errorKinds, g_errorTops, g_weights, g_bests, g_bestLongs, g_partly, g_partlyLongs, g_repaired, g_repairedLong])), (h_lefts, .inl (tc.1, 24, .inl c_lefts)), (h_sizes, .inl (tc.1, 24, .inl c_sizes)), (h_rights, .inl (tc.1, 120, .inl c_rights)), (h_pastRules, .inl (tc.1, 10, .inl u.1)), (h_pastLefts, .inl (tc.1, 240, .inl u.2.1)), (h_pastSizes, .inl (tc.1, 240, .inl u.2.2.1)), (h_pastRights, .inl (tc.1, 1200, .inl u.2.2.2))])) (rc17 v14 v15 v16) [(h_, .inr (12, [.int c_rules, .ref h_lefts, .ref h_sizes, .ref h_rights, g_edits, .ref h_pastRules, .ref h_pastLefts, .ref h_pastSizes, .ref h_pastRights, g_levels, g_codes, g_details, g_asked, g_isWorked, g_empties, g_firsts, g_follows, g_isKept, g_keptEmpties, g_keptFirsts, g_keptFollows, g_strings, g_longs, g_trial, g_trialLong, g_foundName, g_foundToken, g_foundP, g_foundQ, g_moved, g_movedSizes, g_synchronizing, g_input, g_inputLong, g_stack, g_stackParents, g_top, g_at, g_steps, g_traced, g_traces, g_nodes, g_made, g_nodeSymbols, g_nodeParents, g_errors, g_errorAts, g_errorKinds, g_errorTops, g_weights, g_bests, g_bestLongs, g_partly, g_partlyLongs, g_repaired, g_repairedLong])), (h_lefts, .inl (tc.1, 24, .inl c_lefts)), (h_sizes, .inl (tc.1, 24, .inl c_sizes)), (h_rights, .inl (tc.1, 120, .inl c_rights)), (h_pastRules, .inl (tc.1, 10, .inl f1)), (h_pastLefts, .inl (tc.1, 240, .inl v15)), (h_pastSizes, .inl (tc.1, 240, .inl v16)), (h_pastRights, .inl (tc.1, 1200, .inl c_pastRights))] 12 [(0, .ref h_), (1, .int p1), (2, .int v14)] []) (v14 : Int32) (v15 : (Nat → Int32)) (v16 : (Nat → Int32)) : jo X 3 (0, 0) (jQV X (fun (u : (Nat → Int32) × (Nat → Int32) × (Nat → Int32) × (Nat → Int32)) => [(h_, .inr (12, [.int c_rules, .ref h_lefts, .ref h_sizes, .ref h_rights, g_edits, .ref h_pastRules, .ref h_pastLefts, .ref h_pastSizes, .ref h_pastRights, g_levels, g_codes, g_details, g_asked, g_isWorked, g_empties, g_firsts, g_follows, g_isKept, g_keptEmpties, g_keptFirsts, g_keptFollows, g_strings, g_longs, g_trial, g_trialLong, g_foundName, g_foundToken, g_foundP, g_foundQ, g_moved, g_movedSizes, g_synchronizing, g_input, g_inputLong, g_stack, g_stackParents, g_top, g_at, g_steps, g_traced, g_traces, g_nodes, g_made, g_nodeSymbols, g_nodeParents, g_errors, g_errorAts, g_errorKinds, g_errorTops, g_weights, g_bests, g_bestLongs, g_partly, g_partlyLongs, g_repaired, g_repairedLong])), (h_lefts, .inl (tc.1, 24, .inl c_lefts)), (h_sizes, .inl (tc.1, 24, .inl c_sizes)), (h_rights, .inl (tc.1, 120, .inl c_rights)), (h_pastRules, .inl (tc.1, 10, .inl u.1)), (h_pastLefts, .inl (tc.1, 240, .inl u.2.1)), (h_pastSizes, .inl (tc.1, 240, .inl u.2.2.1)), (h_pastRights, .inl (tc.1, 1200, .inl u.2.2.2))])) (bX12_lays_12 p1 c_lefts c_sizes k13 rc17 v14 v15 v16) [(h_, .inr (12, [.int c_rules, .ref h_lefts, .ref h_sizes, .ref h_rights, g_edits, .ref h_pastRules, .ref h_pastLefts, .ref h_pastSizes, .ref h_pastRights, g_levels, g_codes, g_details, g_asked, g_isWorked, g_empties, g_firsts, g_follows, g_isKept, g_keptEmpties, g_keptFirsts, g_keptFollows, g_strings, g_longs, g_trial, g_trialLong, g_foundName, g_foundToken, g_foundP, g_foundQ, g_moved, g_movedSizes, g_synchronizing, g_input, g_inputLong, g_stack, g_stackParents, g_top, g_at, g_steps, g_traced, g_traces, g_nodes, g_made, g_nodeSymbols, g_nodeParents, g_errors, g_errorAts, g_errorKinds, g_errorTops, g_weights, g_bests, g_bestLongs, g_partly, g_partlyLongs, g_repaired, g_repairedLong])), (h_lefts, .inl (tc.1, 24, .inl c_lefts)), (h_sizes, .inl (tc.1, 24, .inl c_sizes)), (h_rights, .inl (tc.1, 120, .inl c_rights)), (h_pastRules, .inl (tc.1, 10, .inl f1)), (h_pastLefts, .inl (tc.1, 240, .inl v15)), (h_pastSizes, .inl (tc.1, 240, .inl v16)), (h_pastRights, .inl (tc.1, 1200, .inl c_pastRights))] 12 [(0, .ref h_), (1, .int p1), (2, .int v14)] [] := by
  unfold bX12_lays_12
  refine j_iload C d12_lays_12 2 rfl ?_
  refine j_const C d12_lays_13 ?_
  refine j_icmp_ge C d12_lays_15 ?_ ?_
  · exact j_sub [0, 1] rfl (hk13 _ _)
  · refine j_aload C d12_lays_18 0 rfl ?_
    refine j_get C d12_lays_19 fl12_22 0 rfl rfl ?_
    refine j_const C d12_lays_22 ?_
    refine j_iload C d12_lays_24 1 rfl ?_
    refine j_imul C d12_lays_25 ?_
    refine j_iload C d12_lays_26 2 rfl ?_
    refine j_iadd C d12_lays_27 ?_
    refine j_aload C d12_lays_28 0 rfl ?_
    refine j_get C d12_lays_29 fl12_9 0 rfl rfl ?_
    refine j_iload C d12_lays_32 2 rfl ?_
    refine j_iald C d12_lays_33 1 rfl (fun x18 => ?_)
    refine j_iast C (fun f19 => [(h_, .inr (12, [.int c_rules, .ref h_lefts, .ref h_sizes, .ref h_rights, g_edits, .ref h_pastRules, .ref h_pastLefts, .ref h_pastSizes, .ref h_pastRights, g_levels, g_codes, g_details, g_asked, g_isWorked, g_empties, g_firsts, g_follows, g_isKept, g_keptEmpties, g_keptFirsts, g_keptFollows, g_strings, g_longs, g_trial, g_trialLong, g_foundName, g_foundToken, g_foundP, g_foundQ, g_moved, g_movedSizes, g_synchronizing, g_input, g_inputLong, g_stack, g_stackParents, g_top, g_at, g_steps, g_traced, g_traces, g_nodes, g_made, g_nodeSymbols, g_nodeParents, g_errors, g_errorAts, g_errorKinds, g_errorTops, g_weights, g_bests, g_bestLongs, g_partly, g_partlyLongs, g_repaired, g_repairedLong])), (h_lefts, .inl (tc.1, 24, .inl c_lefts)), (h_sizes, .inl (tc.1, 24, .inl c_sizes)), (h_rights, .inl (tc.1, 120, .inl c_rights)), (h_pastRules, .inl (tc.1, 10, .inl f1)), (h_pastLefts, .inl (tc.1, 240, .inl f19)), (h_pastSizes, .inl (tc.1, 240, .inl v16)), (h_pastRights, .inl (tc.1, 1200, .inl c_pastRights))]) d12_lays_34 5 rfl (fun _ => rfl) (fun f19 => ?_)
    refine j_aload C d12_lays_35 0 rfl ?_
    refine j_get C d12_lays_36 fl12_25 0 rfl rfl ?_
    refine j_const C d12_lays_39 ?_
    refine j_iload C d12_lays_41 1 rfl ?_
    refine j_imul C d12_lays_42 ?_
    refine j_iload C d12_lays_43 2 rfl ?_
    refine j_iadd C d12_lays_44 ?_
    refine j_aload C d12_lays_45 0 rfl ?_
    refine j_get C d12_lays_46 fl12_13 0 rfl rfl ?_
    refine j_iload C d12_lays_49 2 rfl ?_
    refine j_iald C d12_lays_50 2 rfl (fun x20 => ?_)
    refine j_iast C (fun f21 => [(h_, .inr (12, [.int c_rules, .ref h_lefts, .ref h_sizes, .ref h_rights, g_edits, .ref h_pastRules, .ref h_pastLefts, .ref h_pastSizes, .ref h_pastRights, g_levels, g_codes, g_details, g_asked, g_isWorked, g_empties, g_firsts, g_follows, g_isKept, g_keptEmpties, g_keptFirsts, g_keptFollows, g_strings, g_longs, g_trial, g_trialLong, g_foundName, g_foundToken, g_foundP, g_foundQ, g_moved, g_movedSizes, g_synchronizing, g_input, g_inputLong, g_stack, g_stackParents, g_top, g_at, g_steps, g_traced, g_traces, g_nodes, g_made, g_nodeSymbols, g_nodeParents, g_errors, g_errorAts, g_errorKinds, g_errorTops, g_weights, g_bests, g_bestLongs, g_partly, g_partlyLongs, g_repaired, g_repairedLong])), (h_lefts, .inl (tc.1, 24, .inl c_lefts)), (h_sizes, .inl (tc.1, 24, .inl c_sizes)), (h_rights, .inl (tc.1, 120, .inl c_rights)), (h_pastRules, .inl (tc.1, 10, .inl f1)), (h_pastLefts, .inl (tc.1, 240, .inl f19)), (h_pastSizes, .inl (tc.1, 240, .inl f21)), (h_pastRights, .inl (tc.1, 1200, .inl c_pastRights))]) d12_lays_51 6 rfl (fun _ => rfl) (fun f21 => ?_)
    refine j_iincN C (fun x22 => [(2, .int x22), (0, .ref h_), (1, .int p1)]) d12_lays_52 2 rfl (by decide +kernel) (by decide) (fun _ => rfl) (fun x22 => ?_)
    refine j_goto C d12_lays_55 ?_
    exact j_sub [1, 2, 0] rfl (hrc17 _ _ _)

set_option maxHeartbeats 4000000 in
set_option maxRecDepth 100000 in
theorem kX12_lays (l : Launch) (D : va_G) (tc : jTC) (N : Nat) (h_ h_lefts h_sizes h_rights h_pastRules h_pastLefts h_pastSizes h_pastRights : Nat) (g_edits g_levels g_codes g_details g_asked g_isWorked g_empties g_firsts g_follows g_isKept g_keptEmpties g_keptFirsts g_keptFollows g_strings g_longs g_trial g_trialLong g_foundName g_foundToken g_foundP g_foundQ g_moved g_movedSizes g_synchronizing g_input g_inputLong g_stack g_stackParents g_top g_at g_steps g_traced g_traces g_nodes g_made g_nodeSymbols g_nodeParents g_errors g_errorAts g_errorKinds g_errorTops g_weights g_bests g_bestLongs g_partly g_partlyLongs g_repaired g_repairedLong : Value) (c_rules : Int32) (c_lefts : (Nat → Int32)) (c_sizes : (Nat → Int32)) (c_rights : (Nat → Int32)) (c_pastRules : (Nat → Int32)) (c_pastLefts : (Nat → Int32)) (c_pastSizes : (Nat → Int32)) (c_pastRights : (Nat → Int32)) (p1 : Int32) : ctV l D tc yX12_lays (Cond.code yX12_lays cX12_lays 3 none :: jtb) ({ frames := 0, cells := 0, slots := 0, locals := 0 } : Room) [.ref h_, .int p1] [(h_, .inr (12, [.int c_rules, .ref h_lefts, .ref h_sizes, .ref h_rights, g_edits, .ref h_pastRules, .ref h_pastLefts, .ref h_pastSizes, .ref h_pastRights, g_levels, g_codes, g_details, g_asked, g_isWorked, g_empties, g_firsts, g_follows, g_isKept, g_keptEmpties, g_keptFirsts, g_keptFollows, g_strings, g_longs, g_trial, g_trialLong, g_foundName, g_foundToken, g_foundP, g_foundQ, g_moved, g_movedSizes, g_synchronizing, g_input, g_inputLong, g_stack, g_stackParents, g_top, g_at, g_steps, g_traced, g_traces, g_nodes, g_made, g_nodeSymbols, g_nodeParents, g_errors, g_errorAts, g_errorKinds, g_errorTops, g_weights, g_bests, g_bestLongs, g_partly, g_partlyLongs, g_repaired, g_repairedLong])), (h_lefts, .inl (tc.1, 24, .inl c_lefts)), (h_sizes, .inl (tc.1, 24, .inl c_sizes)), (h_rights, .inl (tc.1, 120, .inl c_rights)), (h_pastRules, .inl (tc.1, 10, .inl c_pastRules)), (h_pastLefts, .inl (tc.1, 240, .inl c_pastLefts)), (h_pastSizes, .inl (tc.1, 240, .inl c_pastSizes)), (h_pastRights, .inl (tc.1, 1200, .inl c_pastRights))] (fX12_lays N c_rules c_lefts c_sizes c_rights c_pastRules c_pastLefts c_pastSizes c_pastRights p1) (fun (u : (Nat → Int32) × (Nat → Int32) × (Nat → Int32) × (Nat → Int32)) => [(h_, .inr (12, [.int c_rules, .ref h_lefts, .ref h_sizes, .ref h_rights, g_edits, .ref h_pastRules, .ref h_pastLefts, .ref h_pastSizes, .ref h_pastRights, g_levels, g_codes, g_details, g_asked, g_isWorked, g_empties, g_firsts, g_follows, g_isKept, g_keptEmpties, g_keptFirsts, g_keptFollows, g_strings, g_longs, g_trial, g_trialLong, g_foundName, g_foundToken, g_foundP, g_foundQ, g_moved, g_movedSizes, g_synchronizing, g_input, g_inputLong, g_stack, g_stackParents, g_top, g_at, g_steps, g_traced, g_traces, g_nodes, g_made, g_nodeSymbols, g_nodeParents, g_errors, g_errorAts, g_errorKinds, g_errorTops, g_weights, g_bests, g_bestLongs, g_partly, g_partlyLongs, g_repaired, g_repairedLong])), (h_lefts, .inl (tc.1, 24, .inl c_lefts)), (h_sizes, .inl (tc.1, 24, .inl c_sizes)), (h_rights, .inl (tc.1, 120, .inl c_rights)), (h_pastRules, .inl (tc.1, 10, .inl u.1)), (h_pastLefts, .inl (tc.1, 240, .inl u.2.1)), (h_pastSizes, .inl (tc.1, 240, .inl u.2.2.1)), (h_pastRights, .inl (tc.1, 1200, .inl u.2.2.2))]) := by
  refine ctV_of (lv0 := [(0, .ref h_), (1, .int p1)]) (by decide +kernel) (Nat.le_of_ble_eq_true rfl) rfl (fun X C => ?_)
  unfold fX12_lays
  refine j_aload C d12_lays_0 0 rfl ?_
  refine j_get C d12_lays_1 fl12_19 0 rfl rfl ?_
  refine j_iload C d12_lays_4 1 rfl ?_
  refine j_aload C d12_lays_5 0 rfl ?_
  refine j_get C d12_lays_6 fl12_123 0 rfl rfl ?_
  refine j_iast C (fun f1 => [(h_, .inr (12, [.int c_rules, .ref h_lefts, .ref h_sizes, .ref h_rights, g_edits, .ref h_pastRules, .ref h_pastLefts, .ref h_pastSizes, .ref h_pastRights, g_levels, g_codes, g_details, g_asked, g_isWorked, g_empties, g_firsts, g_follows, g_isKept, g_keptEmpties, g_keptFirsts, g_keptFollows, g_strings, g_longs, g_trial, g_trialLong, g_foundName, g_foundToken, g_foundP, g_foundQ, g_moved, g_movedSizes, g_synchronizing, g_input, g_inputLong, g_stack, g_stackParents, g_top, g_at, g_steps, g_traced, g_traces, g_nodes, g_made, g_nodeSymbols, g_nodeParents, g_errors, g_errorAts, g_errorKinds, g_errorTops, g_weights, g_bests, g_bestLongs, g_partly, g_partlyLongs, g_repaired, g_repairedLong])), (h_lefts, .inl (tc.1, 24, .inl c_lefts)), (h_sizes, .inl (tc.1, 24, .inl c_sizes)), (h_rights, .inl (tc.1, 120, .inl c_rights)), (h_pastRules, .inl (tc.1, 10, .inl f1)), (h_pastLefts, .inl (tc.1, 240, .inl c_pastLefts)), (h_pastSizes, .inl (tc.1, 240, .inl c_pastSizes)), (h_pastRights, .inl (tc.1, 1200, .inl c_pastRights))]) d12_lays_9 4 rfl (fun _ => rfl) (fun f1 => ?_)
  refine j_const C d12_lays_10 ?_
  refine j_istore C d12_lays_11 (by decide) (lv' := [(2, .int 0), (0, .ref h_), (1, .int p1)]) rfl ?_
  refine j_join2 58 (fun v2 v3 => [(h_, .inr (12, [.int c_rules, .ref h_lefts, .ref h_sizes, .ref h_rights, g_edits, .ref h_pastRules, .ref h_pastLefts, .ref h_pastSizes, .ref h_pastRights, g_levels, g_codes, g_details, g_asked, g_isWorked, g_empties, g_firsts, g_follows, g_isKept, g_keptEmpties, g_keptFirsts, g_keptFollows, g_strings, g_longs, g_trial, g_trialLong, g_foundName, g_foundToken, g_foundP, g_foundQ, g_moved, g_movedSizes, g_synchronizing, g_input, g_inputLong, g_stack, g_stackParents, g_top, g_at, g_steps, g_traced, g_traces, g_nodes, g_made, g_nodeSymbols, g_nodeParents, g_errors, g_errorAts, g_errorKinds, g_errorTops, g_weights, g_bests, g_bestLongs, g_partly, g_partlyLongs, g_repaired, g_repairedLong])), (h_lefts, .inl (tc.1, 24, .inl c_lefts)), (h_sizes, .inl (tc.1, 24, .inl c_sizes)), (h_rights, .inl (tc.1, 120, .inl c_rights)), (h_pastRules, .inl (tc.1, 10, .inl f1)), (h_pastLefts, .inl (tc.1, 240, .inl v2)), (h_pastSizes, .inl (tc.1, 240, .inl v3)), (h_pastRights, .inl (tc.1, 1200, .inl c_pastRights))]) (fun v2 v3 => [(0, .ref h_), (1, .int p1)]) (fun v2 v3 => []) (fun v2 v3 => ?_) (fun k13 hk13 => ?_)
  · refine j_const C d12_lays_58 ?_
    refine j_istore C d12_lays_59 (by decide) (lv' := [(2, .int 0), (0, .ref h_), (1, .int p1)]) rfl ?_
    refine j_join 89 (fun v4 => [(h_, .inr (12, [.int c_rules, .ref h_lefts, .ref h_sizes, .ref h_rights, g_edits, .ref h_pastRules, .ref h_pastLefts, .ref h_pastSizes, .ref h_pastRights, g_levels, g_codes, g_details, g_asked, g_isWorked, g_empties, g_firsts, g_follows, g_isKept, g_keptEmpties, g_keptFirsts, g_keptFollows, g_strings, g_longs, g_trial, g_trialLong, g_foundName, g_foundToken, g_foundP, g_foundQ, g_moved, g_movedSizes, g_synchronizing, g_input, g_inputLong, g_stack, g_stackParents, g_top, g_at, g_steps, g_traced, g_traces, g_nodes, g_made, g_nodeSymbols, g_nodeParents, g_errors, g_errorAts, g_errorKinds, g_errorTops, g_weights, g_bests, g_bestLongs, g_partly, g_partlyLongs, g_repaired, g_repairedLong])), (h_lefts, .inl (tc.1, 24, .inl c_lefts)), (h_sizes, .inl (tc.1, 24, .inl c_sizes)), (h_rights, .inl (tc.1, 120, .inl c_rights)), (h_pastRules, .inl (tc.1, 10, .inl f1)), (h_pastLefts, .inl (tc.1, 240, .inl v2)), (h_pastSizes, .inl (tc.1, 240, .inl v3)), (h_pastRights, .inl (tc.1, 1200, .inl v4))]) (fun v4 => []) (fun v4 => []) (fun v4 => ?_) (fun k5 hk5 => ?_)
    · exact j_vret C d12_lays_89 rfl
    · exact j_sub [1, 2, 0] rfl (j_loop2 (fun v6 v7 => [(h_, .inr (12, [.int c_rules, .ref h_lefts, .ref h_sizes, .ref h_rights, g_edits, .ref h_pastRules, .ref h_pastLefts, .ref h_pastSizes, .ref h_pastRights, g_levels, g_codes, g_details, g_asked, g_isWorked, g_empties, g_firsts, g_follows, g_isKept, g_keptEmpties, g_keptFirsts, g_keptFollows, g_strings, g_longs, g_trial, g_trialLong, g_foundName, g_foundToken, g_foundP, g_foundQ, g_moved, g_movedSizes, g_synchronizing, g_input, g_inputLong, g_stack, g_stackParents, g_top, g_at, g_steps, g_traced, g_traces, g_nodes, g_made, g_nodeSymbols, g_nodeParents, g_errors, g_errorAts, g_errorKinds, g_errorTops, g_weights, g_bests, g_bestLongs, g_partly, g_partlyLongs, g_repaired, g_repairedLong])), (h_lefts, .inl (tc.1, 24, .inl c_lefts)), (h_sizes, .inl (tc.1, 24, .inl c_sizes)), (h_rights, .inl (tc.1, 120, .inl c_rights)), (h_pastRules, .inl (tc.1, 10, .inl f1)), (h_pastLefts, .inl (tc.1, 240, .inl v2)), (h_pastSizes, .inl (tc.1, 240, .inl v3)), (h_pastRights, .inl (tc.1, 1200, .inl v7))]) (fun v6 v7 => [(0, .ref h_), (1, .int p1), (2, .int v6)]) (fun rc8 hrc8 v6 v7 => wX12_lays_60 C h_ h_lefts h_sizes h_rights h_pastRules h_pastLefts h_pastSizes h_pastRights g_edits g_levels g_codes g_details g_asked g_isWorked g_empties g_firsts g_follows g_isKept g_keptEmpties g_keptFirsts g_keptFollows g_strings g_longs g_trial g_trialLong g_foundName g_foundToken g_foundP g_foundQ g_moved g_movedSizes g_synchronizing g_input g_inputLong g_stack g_stackParents g_top g_at g_steps g_traced g_traces g_nodes g_made g_nodeSymbols g_nodeParents g_errors g_errorAts g_errorKinds g_errorTops g_weights g_bests g_bestLongs g_partly g_partlyLongs g_repaired g_repairedLong p1 c_rules c_lefts c_sizes c_rights f1 v2 v3 k5 hk5 rc8 hrc8 v6 v7) N _ _)
  · exact j_sub [1, 2, 0] rfl (j_loop3 (fun v14 v15 v16 => [(h_, .inr (12, [.int c_rules, .ref h_lefts, .ref h_sizes, .ref h_rights, g_edits, .ref h_pastRules, .ref h_pastLefts, .ref h_pastSizes, .ref h_pastRights, g_levels, g_codes, g_details, g_asked, g_isWorked, g_empties, g_firsts, g_follows, g_isKept, g_keptEmpties, g_keptFirsts, g_keptFollows, g_strings, g_longs, g_trial, g_trialLong, g_foundName, g_foundToken, g_foundP, g_foundQ, g_moved, g_movedSizes, g_synchronizing, g_input, g_inputLong, g_stack, g_stackParents, g_top, g_at, g_steps, g_traced, g_traces, g_nodes, g_made, g_nodeSymbols, g_nodeParents, g_errors, g_errorAts, g_errorKinds, g_errorTops, g_weights, g_bests, g_bestLongs, g_partly, g_partlyLongs, g_repaired, g_repairedLong])), (h_lefts, .inl (tc.1, 24, .inl c_lefts)), (h_sizes, .inl (tc.1, 24, .inl c_sizes)), (h_rights, .inl (tc.1, 120, .inl c_rights)), (h_pastRules, .inl (tc.1, 10, .inl f1)), (h_pastLefts, .inl (tc.1, 240, .inl v15)), (h_pastSizes, .inl (tc.1, 240, .inl v16)), (h_pastRights, .inl (tc.1, 1200, .inl c_pastRights))]) (fun v14 v15 v16 => [(0, .ref h_), (1, .int p1), (2, .int v14)]) (fun rc17 hrc17 v14 v15 v16 => wX12_lays_12 C h_ h_lefts h_sizes h_rights h_pastRules h_pastLefts h_pastSizes h_pastRights g_edits g_levels g_codes g_details g_asked g_isWorked g_empties g_firsts g_follows g_isKept g_keptEmpties g_keptFirsts g_keptFollows g_strings g_longs g_trial g_trialLong g_foundName g_foundToken g_foundP g_foundQ g_moved g_movedSizes g_synchronizing g_input g_inputLong g_stack g_stackParents g_top g_at g_steps g_traced g_traces g_nodes g_made g_nodeSymbols g_nodeParents g_errors g_errorAts g_errorKinds g_errorTops g_weights g_bests g_bestLongs g_partly g_partlyLongs g_repaired g_repairedLong p1 c_rules c_lefts c_sizes c_rights c_pastRights f1 k13 hk13 rc17 hrc17 v14 v15 v16) N _ _ _)

theorem d12_laysBack_0 : jda cX12_laysBack 0 0 1 := Or.inl ⟨0, by decide +kernel⟩
theorem d12_laysBack_1 : jda cX12_laysBack 1 0 2 := Or.inl ⟨0, by decide +kernel⟩
theorem d12_laysBack_2 : jd cX12_laysBack 2 (.getfield 19) 3 5 := by decide +kernel
theorem d12_laysBack_5 : jdi cX12_laysBack 5 1 6 := Or.inl ⟨1, by decide +kernel⟩
theorem d12_laysBack_6 : jd cX12_laysBack 6 (.iaload) 1 7 := by decide +kernel
theorem d12_laysBack_7 : jd cX12_laysBack 7 (.putfield 123) 3 10 := by decide +kernel
theorem d12_laysBack_10 : jdk cX12_laysBack 10 0 11 := Or.inl ⟨0, by decide +kernel⟩
theorem d12_laysBack_11 : jds cX12_laysBack 11 2 12 := Or.inl ⟨2, by decide +kernel⟩
theorem d12_laysBack_12 : jdi cX12_laysBack 12 2 13 := Or.inl ⟨2, by decide +kernel⟩
theorem d12_laysBack_13 : jdk cX12_laysBack 13 24 15 := Or.inr (Or.inl ⟨24, by decide +kernel⟩)
theorem d12_laysBack_15 : jdb cX12_laysBack 15 (.if_icmp .ge 43) 43 58 18 := by decide +kernel
theorem d12_laysBack_18 : jda cX12_laysBack 18 0 19 := Or.inl ⟨0, by decide +kernel⟩
theorem d12_laysBack_19 : jd cX12_laysBack 19 (.getfield 9) 3 22 := by decide +kernel
theorem d12_laysBack_22 : jdi cX12_laysBack 22 2 23 := Or.inl ⟨2, by decide +kernel⟩
theorem d12_laysBack_23 : jda cX12_laysBack 23 0 24 := Or.inl ⟨0, by decide +kernel⟩
theorem d12_laysBack_24 : jd cX12_laysBack 24 (.getfield 22) 3 27 := by decide +kernel
theorem d12_laysBack_27 : jdk cX12_laysBack 27 24 29 := Or.inr (Or.inl ⟨24, by decide +kernel⟩)
theorem d12_laysBack_29 : jdi cX12_laysBack 29 1 30 := Or.inl ⟨1, by decide +kernel⟩
theorem d12_laysBack_30 : jd cX12_laysBack 30 (.imul) 1 31 := by decide +kernel
theorem d12_laysBack_31 : jdi cX12_laysBack 31 2 32 := Or.inl ⟨2, by decide +kernel⟩
theorem d12_laysBack_32 : jd cX12_laysBack 32 (.iadd) 1 33 := by decide +kernel
theorem d12_laysBack_33 : jd cX12_laysBack 33 (.iaload) 1 34 := by decide +kernel
theorem d12_laysBack_34 : jd cX12_laysBack 34 (.iastore) 1 35 := by decide +kernel
theorem d12_laysBack_35 : jda cX12_laysBack 35 0 36 := Or.inl ⟨0, by decide +kernel⟩
theorem d12_laysBack_36 : jd cX12_laysBack 36 (.getfield 13) 3 39 := by decide +kernel
theorem d12_laysBack_39 : jdi cX12_laysBack 39 2 40 := Or.inl ⟨2, by decide +kernel⟩
theorem d12_laysBack_40 : jda cX12_laysBack 40 0 41 := Or.inl ⟨0, by decide +kernel⟩
theorem d12_laysBack_41 : jd cX12_laysBack 41 (.getfield 25) 3 44 := by decide +kernel
theorem d12_laysBack_44 : jdk cX12_laysBack 44 24 46 := Or.inr (Or.inl ⟨24, by decide +kernel⟩)
theorem d12_laysBack_46 : jdi cX12_laysBack 46 1 47 := Or.inl ⟨1, by decide +kernel⟩
theorem d12_laysBack_47 : jd cX12_laysBack 47 (.imul) 1 48 := by decide +kernel
theorem d12_laysBack_48 : jdi cX12_laysBack 48 2 49 := Or.inl ⟨2, by decide +kernel⟩
theorem d12_laysBack_49 : jd cX12_laysBack 49 (.iadd) 1 50 := by decide +kernel
theorem d12_laysBack_50 : jd cX12_laysBack 50 (.iaload) 1 51 := by decide +kernel
theorem d12_laysBack_51 : jd cX12_laysBack 51 (.iastore) 1 52 := by decide +kernel
theorem d12_laysBack_52 : jd cX12_laysBack 52 (.iinc 2 1) 3 55 := by decide +kernel
theorem d12_laysBack_55 : jdb cX12_laysBack 55 (.goto (-43)) (-43) 12 58 := by decide +kernel
theorem d12_laysBack_58 : jdk cX12_laysBack 58 0 59 := Or.inl ⟨0, by decide +kernel⟩
theorem d12_laysBack_59 : jds cX12_laysBack 59 2 60 := Or.inl ⟨2, by decide +kernel⟩
theorem d12_laysBack_60 : jdi cX12_laysBack 60 2 61 := Or.inl ⟨2, by decide +kernel⟩
theorem d12_laysBack_61 : jdk cX12_laysBack 61 120 63 := Or.inr (Or.inl ⟨120, by decide +kernel⟩)
theorem d12_laysBack_63 : jdb cX12_laysBack 63 (.if_icmp .ge 26) 26 89 66 := by decide +kernel
theorem d12_laysBack_66 : jda cX12_laysBack 66 0 67 := Or.inl ⟨0, by decide +kernel⟩
theorem d12_laysBack_67 : jd cX12_laysBack 67 (.getfield 16) 3 70 := by decide +kernel
theorem d12_laysBack_70 : jdi cX12_laysBack 70 2 71 := Or.inl ⟨2, by decide +kernel⟩
theorem d12_laysBack_71 : jda cX12_laysBack 71 0 72 := Or.inl ⟨0, by decide +kernel⟩
theorem d12_laysBack_72 : jd cX12_laysBack 72 (.getfield 28) 3 75 := by decide +kernel
theorem d12_laysBack_75 : jdk cX12_laysBack 75 120 77 := Or.inr (Or.inl ⟨120, by decide +kernel⟩)
theorem d12_laysBack_77 : jdi cX12_laysBack 77 1 78 := Or.inl ⟨1, by decide +kernel⟩
theorem d12_laysBack_78 : jd cX12_laysBack 78 (.imul) 1 79 := by decide +kernel
theorem d12_laysBack_79 : jdi cX12_laysBack 79 2 80 := Or.inl ⟨2, by decide +kernel⟩
theorem d12_laysBack_80 : jd cX12_laysBack 80 (.iadd) 1 81 := by decide +kernel
theorem d12_laysBack_81 : jd cX12_laysBack 81 (.iaload) 1 82 := by decide +kernel
theorem d12_laysBack_82 : jd cX12_laysBack 82 (.iastore) 1 83 := by decide +kernel
theorem d12_laysBack_83 : jd cX12_laysBack 83 (.iinc 2 1) 3 86 := by decide +kernel
theorem d12_laysBack_86 : jdb cX12_laysBack 86 (.goto (-26)) (-26) 60 89 := by decide +kernel
theorem d12_laysBack_89 : decode cX12_laysBack 89 = .ok (.return_, 1) := by decide +kernel
set_option maxHeartbeats 4000000 in
set_option maxRecDepth 100000 in
theorem wX12_laysBack_60 {X : jC} {tc : jTC} (C : jx X cX12_laysBack 3 RX12 none tc ({ frames := 0, cells := 0, slots := 0, locals := 0 } : Room)) (h_ h_lefts h_sizes h_rights h_pastRules h_pastLefts h_pastSizes h_pastRights : Nat) (g_edits g_levels g_codes g_details g_asked g_isWorked g_empties g_firsts g_follows g_isKept g_keptEmpties g_keptFirsts g_keptFollows g_strings g_longs g_trial g_trialLong g_foundName g_foundToken g_foundP g_foundQ g_moved g_movedSizes g_synchronizing g_input g_inputLong g_stack g_stackParents g_top g_at g_steps g_traced g_traces g_nodes g_made g_nodeSymbols g_nodeParents g_errors g_errorAts g_errorKinds g_errorTops g_weights g_bests g_bestLongs g_partly g_partlyLongs g_repaired g_repairedLong : Value) (p1 : Int32) (c_pastRules : (Nat → Int32)) (c_pastLefts : (Nat → Int32)) (c_pastSizes : (Nat → Int32)) (c_pastRights : (Nat → Int32)) (x1 : Int32) (v2 : (Nat → Int32)) (v3 : (Nat → Int32)) (k5 : ((Nat → Int32) → Option (Int32 × (Nat → Int32) × (Nat → Int32) × (Nat → Int32)))) (hk5 : ∀ (v12 : (Nat → Int32)), jo X 3 (0, 0) (jQV X (fun (u : Int32 × (Nat → Int32) × (Nat → Int32) × (Nat → Int32)) => [(h_, .inr (12, [.int u.1, .ref h_lefts, .ref h_sizes, .ref h_rights, g_edits, .ref h_pastRules, .ref h_pastLefts, .ref h_pastSizes, .ref h_pastRights, g_levels, g_codes, g_details, g_asked, g_isWorked, g_empties, g_firsts, g_follows, g_isKept, g_keptEmpties, g_keptFirsts, g_keptFollows, g_strings, g_longs, g_trial, g_trialLong, g_foundName, g_foundToken, g_foundP, g_foundQ, g_moved, g_movedSizes, g_synchronizing, g_input, g_inputLong, g_stack, g_stackParents, g_top, g_at, g_steps, g_traced, g_traces, g_nodes, g_made, g_nodeSymbols, g_nodeParents, g_errors, g_errorAts, g_errorKinds, g_errorTops, g_weights, g_bests, g_bestLongs, g_partly, g_partlyLongs, g_repaired, g_repairedLong])), (h_lefts, .inl (tc.1, 24, .inl u.2.1)), (h_sizes, .inl (tc.1, 24, .inl u.2.2.1)), (h_rights, .inl (tc.1, 120, .inl u.2.2.2)), (h_pastRules, .inl (tc.1, 10, .inl c_pastRules)), (h_pastLefts, .inl (tc.1, 240, .inl c_pastLefts)), (h_pastSizes, .inl (tc.1, 240, .inl c_pastSizes)), (h_pastRights, .inl (tc.1, 1200, .inl c_pastRights))])) (k5 v12) [(h_, .inr (12, [.int x1, .ref h_lefts, .ref h_sizes, .ref h_rights, g_edits, .ref h_pastRules, .ref h_pastLefts, .ref h_pastSizes, .ref h_pastRights, g_levels, g_codes, g_details, g_asked, g_isWorked, g_empties, g_firsts, g_follows, g_isKept, g_keptEmpties, g_keptFirsts, g_keptFollows, g_strings, g_longs, g_trial, g_trialLong, g_foundName, g_foundToken, g_foundP, g_foundQ, g_moved, g_movedSizes, g_synchronizing, g_input, g_inputLong, g_stack, g_stackParents, g_top, g_at, g_steps, g_traced, g_traces, g_nodes, g_made, g_nodeSymbols, g_nodeParents, g_errors, g_errorAts, g_errorKinds, g_errorTops, g_weights, g_bests, g_bestLongs, g_partly, g_partlyLongs, g_repaired, g_repairedLong])), (h_lefts, .inl (tc.1, 24, .inl v2)), (h_sizes, .inl (tc.1, 24, .inl v3)), (h_rights, .inl (tc.1, 120, .inl v12)), (h_pastRules, .inl (tc.1, 10, .inl c_pastRules)), (h_pastLefts, .inl (tc.1, 240, .inl c_pastLefts)), (h_pastSizes, .inl (tc.1, 240, .inl c_pastSizes)), (h_pastRights, .inl (tc.1, 1200, .inl c_pastRights))] 89 [] []) (rc8 : Int32 → (Nat → Int32) → Option (Int32 × (Nat → Int32) × (Nat → Int32) × (Nat → Int32))) (hrc8 : ∀ (v6 : Int32) (v7 : (Nat → Int32)), jo X 3 (0, 0) (jQV X (fun (u : Int32 × (Nat → Int32) × (Nat → Int32) × (Nat → Int32)) => [(h_, .inr (12, [.int u.1, .ref h_lefts, .ref h_sizes, .ref h_rights, g_edits, .ref h_pastRules, .ref h_pastLefts, .ref h_pastSizes, .ref h_pastRights, g_levels, g_codes, g_details, g_asked, g_isWorked, g_empties, g_firsts, g_follows, g_isKept, g_keptEmpties, g_keptFirsts, g_keptFollows, g_strings, g_longs, g_trial, g_trialLong, g_foundName, g_foundToken, g_foundP, g_foundQ, g_moved, g_movedSizes, g_synchronizing, g_input, g_inputLong, g_stack, g_stackParents, g_top, g_at, g_steps, g_traced, g_traces, g_nodes, g_made, g_nodeSymbols, g_nodeParents, g_errors, g_errorAts, g_errorKinds, g_errorTops, g_weights, g_bests, g_bestLongs, g_partly, g_partlyLongs, g_repaired, g_repairedLong])), (h_lefts, .inl (tc.1, 24, .inl u.2.1)), (h_sizes, .inl (tc.1, 24, .inl u.2.2.1)), (h_rights, .inl (tc.1, 120, .inl u.2.2.2)), (h_pastRules, .inl (tc.1, 10, .inl c_pastRules)), (h_pastLefts, .inl (tc.1, 240, .inl c_pastLefts)), (h_pastSizes, .inl (tc.1, 240, .inl c_pastSizes)), (h_pastRights, .inl (tc.1, 1200, .inl c_pastRights))])) (rc8 v6 v7) [(h_, .inr (12, [.int x1, .ref h_lefts, .ref h_sizes, .ref h_rights, g_edits, .ref h_pastRules, .ref h_pastLefts, .ref h_pastSizes, .ref h_pastRights, g_levels, g_codes, g_details, g_asked, g_isWorked, g_empties, g_firsts, g_follows, g_isKept, g_keptEmpties, g_keptFirsts, g_keptFollows, g_strings, g_longs, g_trial, g_trialLong, g_foundName, g_foundToken, g_foundP, g_foundQ, g_moved, g_movedSizes, g_synchronizing, g_input, g_inputLong, g_stack, g_stackParents, g_top, g_at, g_steps, g_traced, g_traces, g_nodes, g_made, g_nodeSymbols, g_nodeParents, g_errors, g_errorAts, g_errorKinds, g_errorTops, g_weights, g_bests, g_bestLongs, g_partly, g_partlyLongs, g_repaired, g_repairedLong])), (h_lefts, .inl (tc.1, 24, .inl v2)), (h_sizes, .inl (tc.1, 24, .inl v3)), (h_rights, .inl (tc.1, 120, .inl v7)), (h_pastRules, .inl (tc.1, 10, .inl c_pastRules)), (h_pastLefts, .inl (tc.1, 240, .inl c_pastLefts)), (h_pastSizes, .inl (tc.1, 240, .inl c_pastSizes)), (h_pastRights, .inl (tc.1, 1200, .inl c_pastRights))] 60 [(0, .ref h_), (1, .int p1), (2, .int v6)] []) (v6 : Int32) (v7 : (Nat → Int32)) : jo X 3 (0, 0) (jQV X (fun (u : Int32 × (Nat → Int32) × (Nat → Int32) × (Nat → Int32)) => [(h_, .inr (12, [.int u.1, .ref h_lefts, .ref h_sizes, .ref h_rights, g_edits, .ref h_pastRules, .ref h_pastLefts, .ref h_pastSizes, .ref h_pastRights, g_levels, g_codes, g_details, g_asked, g_isWorked, g_empties, g_firsts, g_follows, g_isKept, g_keptEmpties, g_keptFirsts, g_keptFollows, g_strings, g_longs, g_trial, g_trialLong, g_foundName, g_foundToken, g_foundP, g_foundQ, g_moved, g_movedSizes, g_synchronizing, g_input, g_inputLong, g_stack, g_stackParents, g_top, g_at, g_steps, g_traced, g_traces, g_nodes, g_made, g_nodeSymbols, g_nodeParents, g_errors, g_errorAts, g_errorKinds, g_errorTops, g_weights, g_bests, g_bestLongs, g_partly, g_partlyLongs, g_repaired, g_repairedLong])), (h_lefts, .inl (tc.1, 24, .inl u.2.1)), (h_sizes, .inl (tc.1, 24, .inl u.2.2.1)), (h_rights, .inl (tc.1, 120, .inl u.2.2.2)), (h_pastRules, .inl (tc.1, 10, .inl c_pastRules)), (h_pastLefts, .inl (tc.1, 240, .inl c_pastLefts)), (h_pastSizes, .inl (tc.1, 240, .inl c_pastSizes)), (h_pastRights, .inl (tc.1, 1200, .inl c_pastRights))])) (bX12_laysBack_60 p1 c_pastRights k5 rc8 v6 v7) [(h_, .inr (12, [.int x1, .ref h_lefts, .ref h_sizes, .ref h_rights, g_edits, .ref h_pastRules, .ref h_pastLefts, .ref h_pastSizes, .ref h_pastRights, g_levels, g_codes, g_details, g_asked, g_isWorked, g_empties, g_firsts, g_follows, g_isKept, g_keptEmpties, g_keptFirsts, g_keptFollows, g_strings, g_longs, g_trial, g_trialLong, g_foundName, g_foundToken, g_foundP, g_foundQ, g_moved, g_movedSizes, g_synchronizing, g_input, g_inputLong, g_stack, g_stackParents, g_top, g_at, g_steps, g_traced, g_traces, g_nodes, g_made, g_nodeSymbols, g_nodeParents, g_errors, g_errorAts, g_errorKinds, g_errorTops, g_weights, g_bests, g_bestLongs, g_partly, g_partlyLongs, g_repaired, g_repairedLong])), (h_lefts, .inl (tc.1, 24, .inl v2)), (h_sizes, .inl (tc.1, 24, .inl v3)), (h_rights, .inl (tc.1, 120, .inl v7)), (h_pastRules, .inl (tc.1, 10, .inl c_pastRules)), (h_pastLefts, .inl (tc.1, 240, .inl c_pastLefts)), (h_pastSizes, .inl (tc.1, 240, .inl c_pastSizes)), (h_pastRights, .inl (tc.1, 1200, .inl c_pastRights))] 60 [(0, .ref h_), (1, .int p1), (2, .int v6)] [] := by
  unfold bX12_laysBack_60
  refine j_iload C d12_laysBack_60 2 rfl ?_
  refine j_const C d12_laysBack_61 ?_
  refine j_icmp_ge C d12_laysBack_63 ?_ ?_
  · exact j_sub [] rfl (hk5 _)
  · refine j_aload C d12_laysBack_66 0 rfl ?_
    refine j_get C d12_laysBack_67 fl12_16 0 rfl rfl ?_
    refine j_iload C d12_laysBack_70 2 rfl ?_
    refine j_aload C d12_laysBack_71 0 rfl ?_
    refine j_get C d12_laysBack_72 fl12_28 0 rfl rfl ?_
    refine j_const C d12_laysBack_75 ?_
    refine j_iload C d12_laysBack_77 1 rfl ?_
    refine j_imul C d12_laysBack_78 ?_
    refine j_iload C d12_laysBack_79 2 rfl ?_
    refine j_iadd C d12_laysBack_80 ?_
    refine j_iald C d12_laysBack_81 7 rfl (fun x9 => ?_)
    refine j_iast C (fun f10 => [(h_, .inr (12, [.int x1, .ref h_lefts, .ref h_sizes, .ref h_rights, g_edits, .ref h_pastRules, .ref h_pastLefts, .ref h_pastSizes, .ref h_pastRights, g_levels, g_codes, g_details, g_asked, g_isWorked, g_empties, g_firsts, g_follows, g_isKept, g_keptEmpties, g_keptFirsts, g_keptFollows, g_strings, g_longs, g_trial, g_trialLong, g_foundName, g_foundToken, g_foundP, g_foundQ, g_moved, g_movedSizes, g_synchronizing, g_input, g_inputLong, g_stack, g_stackParents, g_top, g_at, g_steps, g_traced, g_traces, g_nodes, g_made, g_nodeSymbols, g_nodeParents, g_errors, g_errorAts, g_errorKinds, g_errorTops, g_weights, g_bests, g_bestLongs, g_partly, g_partlyLongs, g_repaired, g_repairedLong])), (h_lefts, .inl (tc.1, 24, .inl v2)), (h_sizes, .inl (tc.1, 24, .inl v3)), (h_rights, .inl (tc.1, 120, .inl f10)), (h_pastRules, .inl (tc.1, 10, .inl c_pastRules)), (h_pastLefts, .inl (tc.1, 240, .inl c_pastLefts)), (h_pastSizes, .inl (tc.1, 240, .inl c_pastSizes)), (h_pastRights, .inl (tc.1, 1200, .inl c_pastRights))]) d12_laysBack_82 3 rfl (fun _ => rfl) (fun f10 => ?_)
    refine j_iincN C (fun x11 => [(2, .int x11), (0, .ref h_), (1, .int p1)]) d12_laysBack_83 2 rfl (by decide +kernel) (by decide) (fun _ => rfl) (fun x11 => ?_)
    refine j_goto C d12_laysBack_86 ?_
    exact j_sub [1, 2, 0] rfl (hrc8 _ _)

set_option maxHeartbeats 4000000 in
set_option maxRecDepth 100000 in
theorem wX12_laysBack_12 {X : jC} {tc : jTC} (C : jx X cX12_laysBack 3 RX12 none tc ({ frames := 0, cells := 0, slots := 0, locals := 0 } : Room)) (h_ h_lefts h_sizes h_rights h_pastRules h_pastLefts h_pastSizes h_pastRights : Nat) (g_edits g_levels g_codes g_details g_asked g_isWorked g_empties g_firsts g_follows g_isKept g_keptEmpties g_keptFirsts g_keptFollows g_strings g_longs g_trial g_trialLong g_foundName g_foundToken g_foundP g_foundQ g_moved g_movedSizes g_synchronizing g_input g_inputLong g_stack g_stackParents g_top g_at g_steps g_traced g_traces g_nodes g_made g_nodeSymbols g_nodeParents g_errors g_errorAts g_errorKinds g_errorTops g_weights g_bests g_bestLongs g_partly g_partlyLongs g_repaired g_repairedLong : Value) (p1 : Int32) (c_rights : (Nat → Int32)) (c_pastRules : (Nat → Int32)) (c_pastLefts : (Nat → Int32)) (c_pastSizes : (Nat → Int32)) (c_pastRights : (Nat → Int32)) (x1 : Int32) (k13 : ((Nat → Int32) → (Nat → Int32) → Option (Int32 × (Nat → Int32) × (Nat → Int32) × (Nat → Int32)))) (hk13 : ∀ (v23 : (Nat → Int32)) (v24 : (Nat → Int32)), jo X 3 (0, 0) (jQV X (fun (u : Int32 × (Nat → Int32) × (Nat → Int32) × (Nat → Int32)) => [(h_, .inr (12, [.int u.1, .ref h_lefts, .ref h_sizes, .ref h_rights, g_edits, .ref h_pastRules, .ref h_pastLefts, .ref h_pastSizes, .ref h_pastRights, g_levels, g_codes, g_details, g_asked, g_isWorked, g_empties, g_firsts, g_follows, g_isKept, g_keptEmpties, g_keptFirsts, g_keptFollows, g_strings, g_longs, g_trial, g_trialLong, g_foundName, g_foundToken, g_foundP, g_foundQ, g_moved, g_movedSizes, g_synchronizing, g_input, g_inputLong, g_stack, g_stackParents, g_top, g_at, g_steps, g_traced, g_traces, g_nodes, g_made, g_nodeSymbols, g_nodeParents, g_errors, g_errorAts, g_errorKinds, g_errorTops, g_weights, g_bests, g_bestLongs, g_partly, g_partlyLongs, g_repaired, g_repairedLong])), (h_lefts, .inl (tc.1, 24, .inl u.2.1)), (h_sizes, .inl (tc.1, 24, .inl u.2.2.1)), (h_rights, .inl (tc.1, 120, .inl u.2.2.2)), (h_pastRules, .inl (tc.1, 10, .inl c_pastRules)), (h_pastLefts, .inl (tc.1, 240, .inl c_pastLefts)), (h_pastSizes, .inl (tc.1, 240, .inl c_pastSizes)), (h_pastRights, .inl (tc.1, 1200, .inl c_pastRights))])) (k13 v23 v24) [(h_, .inr (12, [.int x1, .ref h_lefts, .ref h_sizes, .ref h_rights, g_edits, .ref h_pastRules, .ref h_pastLefts, .ref h_pastSizes, .ref h_pastRights, g_levels, g_codes, g_details, g_asked, g_isWorked, g_empties, g_firsts, g_follows, g_isKept, g_keptEmpties, g_keptFirsts, g_keptFollows, g_strings, g_longs, g_trial, g_trialLong, g_foundName, g_foundToken, g_foundP, g_foundQ, g_moved, g_movedSizes, g_synchronizing, g_input, g_inputLong, g_stack, g_stackParents, g_top, g_at, g_steps, g_traced, g_traces, g_nodes, g_made, g_nodeSymbols, g_nodeParents, g_errors, g_errorAts, g_errorKinds, g_errorTops, g_weights, g_bests, g_bestLongs, g_partly, g_partlyLongs, g_repaired, g_repairedLong])), (h_lefts, .inl (tc.1, 24, .inl v23)), (h_sizes, .inl (tc.1, 24, .inl v24)), (h_rights, .inl (tc.1, 120, .inl c_rights)), (h_pastRules, .inl (tc.1, 10, .inl c_pastRules)), (h_pastLefts, .inl (tc.1, 240, .inl c_pastLefts)), (h_pastSizes, .inl (tc.1, 240, .inl c_pastSizes)), (h_pastRights, .inl (tc.1, 1200, .inl c_pastRights))] 58 [(0, .ref h_), (1, .int p1)] []) (rc17 : Int32 → (Nat → Int32) → (Nat → Int32) → Option (Int32 × (Nat → Int32) × (Nat → Int32) × (Nat → Int32))) (hrc17 : ∀ (v14 : Int32) (v15 : (Nat → Int32)) (v16 : (Nat → Int32)), jo X 3 (0, 0) (jQV X (fun (u : Int32 × (Nat → Int32) × (Nat → Int32) × (Nat → Int32)) => [(h_, .inr (12, [.int u.1, .ref h_lefts, .ref h_sizes, .ref h_rights, g_edits, .ref h_pastRules, .ref h_pastLefts, .ref h_pastSizes, .ref h_pastRights, g_levels, g_codes, g_details, g_asked, g_isWorked, g_empties, g_firsts, g_follows, g_isKept, g_keptEmpties, g_keptFirsts, g_keptFollows, g_strings, g_longs, g_trial, g_trialLong, g_foundName, g_foundToken, g_foundP, g_foundQ, g_moved, g_movedSizes, g_synchronizing, g_input, g_inputLong, g_stack, g_stackParents, g_top, g_at, g_steps, g_traced, g_traces, g_nodes, g_made, g_nodeSymbols, g_nodeParents, g_errors, g_errorAts, g_errorKinds, g_errorTops, g_weights, g_bests, g_bestLongs, g_partly, g_partlyLongs, g_repaired, g_repairedLong])), (h_lefts, .inl (tc.1, 24, .inl u.2.1)), (h_sizes, .inl (tc.1, 24, .inl u.2.2.1)), (h_rights, .inl (tc.1, 120, .inl u.2.2.2)), (h_pastRules, .inl (tc.1, 10, .inl c_pastRules)), (h_pastLefts, .inl (tc.1, 240, .inl c_pastLefts)), (h_pastSizes, .inl (tc.1, 240, .inl c_pastSizes)), (h_pastRights, .inl (tc.1, 1200, .inl c_pastRights))])) (rc17 v14 v15 v16) [(h_, .inr (12, [.int x1, .ref h_lefts, .ref h_sizes, .ref h_rights, g_edits, .ref h_pastRules, .ref h_pastLefts, .ref h_pastSizes, .ref h_pastRights, g_levels, g_codes, g_details, g_asked, g_isWorked, g_empties, g_firsts, g_follows, g_isKept, g_keptEmpties, g_keptFirsts, g_keptFollows, g_strings, g_longs, g_trial, g_trialLong, g_foundName, g_foundToken, g_foundP, g_foundQ, g_moved, g_movedSizes, g_synchronizing, g_input, g_inputLong, g_stack, g_stackParents, g_top, g_at, g_steps, g_traced, g_traces, g_nodes, g_made, g_nodeSymbols, g_nodeParents, g_errors, g_errorAts, g_errorKinds, g_errorTops, g_weights, g_bests, g_bestLongs, g_partly, g_partlyLongs, g_repaired, g_repairedLong])), (h_lefts, .inl (tc.1, 24, .inl v15)), (h_sizes, .inl (tc.1, 24, .inl v16)), (h_rights, .inl (tc.1, 120, .inl c_rights)), (h_pastRules, .inl (tc.1, 10, .inl c_pastRules)), (h_pastLefts, .inl (tc.1, 240, .inl c_pastLefts)), (h_pastSizes, .inl (tc.1, 240, .inl c_pastSizes)), (h_pastRights, .inl (tc.1, 1200, .inl c_pastRights))] 12 [(0, .ref h_), (1, .int p1), (2, .int v14)] []) (v14 : Int32) (v15 : (Nat → Int32)) (v16 : (Nat → Int32)) : jo X 3 (0, 0) (jQV X (fun (u : Int32 × (Nat → Int32) × (Nat → Int32) × (Nat → Int32)) => [(h_, .inr (12, [.int u.1, .ref h_lefts, .ref h_sizes, .ref h_rights, g_edits, .ref h_pastRules, .ref h_pastLefts, .ref h_pastSizes, .ref h_pastRights, g_levels, g_codes, g_details, g_asked, g_isWorked, g_empties, g_firsts, g_follows, g_isKept, g_keptEmpties, g_keptFirsts, g_keptFollows, g_strings, g_longs, g_trial, g_trialLong, g_foundName, g_foundToken, g_foundP, g_foundQ, g_moved, g_movedSizes, g_synchronizing, g_input, g_inputLong, g_stack, g_stackParents, g_top, g_at, g_steps, g_traced, g_traces, g_nodes, g_made, g_nodeSymbols, g_nodeParents, g_errors, g_errorAts, g_errorKinds, g_errorTops, g_weights, g_bests, g_bestLongs, g_partly, g_partlyLongs, g_repaired, g_repairedLong])), (h_lefts, .inl (tc.1, 24, .inl u.2.1)), (h_sizes, .inl (tc.1, 24, .inl u.2.2.1)), (h_rights, .inl (tc.1, 120, .inl u.2.2.2)), (h_pastRules, .inl (tc.1, 10, .inl c_pastRules)), (h_pastLefts, .inl (tc.1, 240, .inl c_pastLefts)), (h_pastSizes, .inl (tc.1, 240, .inl c_pastSizes)), (h_pastRights, .inl (tc.1, 1200, .inl c_pastRights))])) (bX12_laysBack_12 p1 c_pastLefts c_pastSizes k13 rc17 v14 v15 v16) [(h_, .inr (12, [.int x1, .ref h_lefts, .ref h_sizes, .ref h_rights, g_edits, .ref h_pastRules, .ref h_pastLefts, .ref h_pastSizes, .ref h_pastRights, g_levels, g_codes, g_details, g_asked, g_isWorked, g_empties, g_firsts, g_follows, g_isKept, g_keptEmpties, g_keptFirsts, g_keptFollows, g_strings, g_longs, g_trial, g_trialLong, g_foundName, g_foundToken, g_foundP, g_foundQ, g_moved, g_movedSizes, g_synchronizing, g_input, g_inputLong, g_stack, g_stackParents, g_top, g_at, g_steps, g_traced, g_traces, g_nodes, g_made, g_nodeSymbols, g_nodeParents, g_errors, g_errorAts, g_errorKinds, g_errorTops, g_weights, g_bests, g_bestLongs, g_partly, g_partlyLongs, g_repaired, g_repairedLong])), (h_lefts, .inl (tc.1, 24, .inl v15)), (h_sizes, .inl (tc.1, 24, .inl v16)), (h_rights, .inl (tc.1, 120, .inl c_rights)), (h_pastRules, .inl (tc.1, 10, .inl c_pastRules)), (h_pastLefts, .inl (tc.1, 240, .inl c_pastLefts)), (h_pastSizes, .inl (tc.1, 240, .inl c_pastSizes)), (h_pastRights, .inl (tc.1, 1200, .inl c_pastRights))] 12 [(0, .ref h_), (1, .int p1), (2, .int v14)] [] := by
  unfold bX12_laysBack_12
  refine j_iload C d12_laysBack_12 2 rfl ?_
  refine j_const C d12_laysBack_13 ?_
  refine j_icmp_ge C d12_laysBack_15 ?_ ?_
  · exact j_sub [0, 1] rfl (hk13 _ _)
  · refine j_aload C d12_laysBack_18 0 rfl ?_
    refine j_get C d12_laysBack_19 fl12_9 0 rfl rfl ?_
    refine j_iload C d12_laysBack_22 2 rfl ?_
    refine j_aload C d12_laysBack_23 0 rfl ?_
    refine j_get C d12_laysBack_24 fl12_22 0 rfl rfl ?_
    refine j_const C d12_laysBack_27 ?_
    refine j_iload C d12_laysBack_29 1 rfl ?_
    refine j_imul C d12_laysBack_30 ?_
    refine j_iload C d12_laysBack_31 2 rfl ?_
    refine j_iadd C d12_laysBack_32 ?_
    refine j_iald C d12_laysBack_33 5 rfl (fun x18 => ?_)
    refine j_iast C (fun f19 => [(h_, .inr (12, [.int x1, .ref h_lefts, .ref h_sizes, .ref h_rights, g_edits, .ref h_pastRules, .ref h_pastLefts, .ref h_pastSizes, .ref h_pastRights, g_levels, g_codes, g_details, g_asked, g_isWorked, g_empties, g_firsts, g_follows, g_isKept, g_keptEmpties, g_keptFirsts, g_keptFollows, g_strings, g_longs, g_trial, g_trialLong, g_foundName, g_foundToken, g_foundP, g_foundQ, g_moved, g_movedSizes, g_synchronizing, g_input, g_inputLong, g_stack, g_stackParents, g_top, g_at, g_steps, g_traced, g_traces, g_nodes, g_made, g_nodeSymbols, g_nodeParents, g_errors, g_errorAts, g_errorKinds, g_errorTops, g_weights, g_bests, g_bestLongs, g_partly, g_partlyLongs, g_repaired, g_repairedLong])), (h_lefts, .inl (tc.1, 24, .inl f19)), (h_sizes, .inl (tc.1, 24, .inl v16)), (h_rights, .inl (tc.1, 120, .inl c_rights)), (h_pastRules, .inl (tc.1, 10, .inl c_pastRules)), (h_pastLefts, .inl (tc.1, 240, .inl c_pastLefts)), (h_pastSizes, .inl (tc.1, 240, .inl c_pastSizes)), (h_pastRights, .inl (tc.1, 1200, .inl c_pastRights))]) d12_laysBack_34 1 rfl (fun _ => rfl) (fun f19 => ?_)
    refine j_aload C d12_laysBack_35 0 rfl ?_
    refine j_get C d12_laysBack_36 fl12_13 0 rfl rfl ?_
    refine j_iload C d12_laysBack_39 2 rfl ?_
    refine j_aload C d12_laysBack_40 0 rfl ?_
    refine j_get C d12_laysBack_41 fl12_25 0 rfl rfl ?_
    refine j_const C d12_laysBack_44 ?_
    refine j_iload C d12_laysBack_46 1 rfl ?_
    refine j_imul C d12_laysBack_47 ?_
    refine j_iload C d12_laysBack_48 2 rfl ?_
    refine j_iadd C d12_laysBack_49 ?_
    refine j_iald C d12_laysBack_50 6 rfl (fun x20 => ?_)
    refine j_iast C (fun f21 => [(h_, .inr (12, [.int x1, .ref h_lefts, .ref h_sizes, .ref h_rights, g_edits, .ref h_pastRules, .ref h_pastLefts, .ref h_pastSizes, .ref h_pastRights, g_levels, g_codes, g_details, g_asked, g_isWorked, g_empties, g_firsts, g_follows, g_isKept, g_keptEmpties, g_keptFirsts, g_keptFollows, g_strings, g_longs, g_trial, g_trialLong, g_foundName, g_foundToken, g_foundP, g_foundQ, g_moved, g_movedSizes, g_synchronizing, g_input, g_inputLong, g_stack, g_stackParents, g_top, g_at, g_steps, g_traced, g_traces, g_nodes, g_made, g_nodeSymbols, g_nodeParents, g_errors, g_errorAts, g_errorKinds, g_errorTops, g_weights, g_bests, g_bestLongs, g_partly, g_partlyLongs, g_repaired, g_repairedLong])), (h_lefts, .inl (tc.1, 24, .inl f19)), (h_sizes, .inl (tc.1, 24, .inl f21)), (h_rights, .inl (tc.1, 120, .inl c_rights)), (h_pastRules, .inl (tc.1, 10, .inl c_pastRules)), (h_pastLefts, .inl (tc.1, 240, .inl c_pastLefts)), (h_pastSizes, .inl (tc.1, 240, .inl c_pastSizes)), (h_pastRights, .inl (tc.1, 1200, .inl c_pastRights))]) d12_laysBack_51 2 rfl (fun _ => rfl) (fun f21 => ?_)
    refine j_iincN C (fun x22 => [(2, .int x22), (0, .ref h_), (1, .int p1)]) d12_laysBack_52 2 rfl (by decide +kernel) (by decide) (fun _ => rfl) (fun x22 => ?_)
    refine j_goto C d12_laysBack_55 ?_
    exact j_sub [1, 2, 0] rfl (hrc17 _ _ _)

set_option maxHeartbeats 4000000 in
set_option maxRecDepth 100000 in
theorem kX12_laysBack (l : Launch) (D : va_G) (tc : jTC) (N : Nat) (h_ h_lefts h_sizes h_rights h_pastRules h_pastLefts h_pastSizes h_pastRights : Nat) (g_edits g_levels g_codes g_details g_asked g_isWorked g_empties g_firsts g_follows g_isKept g_keptEmpties g_keptFirsts g_keptFollows g_strings g_longs g_trial g_trialLong g_foundName g_foundToken g_foundP g_foundQ g_moved g_movedSizes g_synchronizing g_input g_inputLong g_stack g_stackParents g_top g_at g_steps g_traced g_traces g_nodes g_made g_nodeSymbols g_nodeParents g_errors g_errorAts g_errorKinds g_errorTops g_weights g_bests g_bestLongs g_partly g_partlyLongs g_repaired g_repairedLong : Value) (c_rules : Int32) (c_lefts : (Nat → Int32)) (c_sizes : (Nat → Int32)) (c_rights : (Nat → Int32)) (c_pastRules : (Nat → Int32)) (c_pastLefts : (Nat → Int32)) (c_pastSizes : (Nat → Int32)) (c_pastRights : (Nat → Int32)) (p1 : Int32) : ctV l D tc yX12_laysBack (Cond.code yX12_laysBack cX12_laysBack 3 none :: jtb) ({ frames := 0, cells := 0, slots := 0, locals := 0 } : Room) [.ref h_, .int p1] [(h_, .inr (12, [.int c_rules, .ref h_lefts, .ref h_sizes, .ref h_rights, g_edits, .ref h_pastRules, .ref h_pastLefts, .ref h_pastSizes, .ref h_pastRights, g_levels, g_codes, g_details, g_asked, g_isWorked, g_empties, g_firsts, g_follows, g_isKept, g_keptEmpties, g_keptFirsts, g_keptFollows, g_strings, g_longs, g_trial, g_trialLong, g_foundName, g_foundToken, g_foundP, g_foundQ, g_moved, g_movedSizes, g_synchronizing, g_input, g_inputLong, g_stack, g_stackParents, g_top, g_at, g_steps, g_traced, g_traces, g_nodes, g_made, g_nodeSymbols, g_nodeParents, g_errors, g_errorAts, g_errorKinds, g_errorTops, g_weights, g_bests, g_bestLongs, g_partly, g_partlyLongs, g_repaired, g_repairedLong])), (h_lefts, .inl (tc.1, 24, .inl c_lefts)), (h_sizes, .inl (tc.1, 24, .inl c_sizes)), (h_rights, .inl (tc.1, 120, .inl c_rights)), (h_pastRules, .inl (tc.1, 10, .inl c_pastRules)), (h_pastLefts, .inl (tc.1, 240, .inl c_pastLefts)), (h_pastSizes, .inl (tc.1, 240, .inl c_pastSizes)), (h_pastRights, .inl (tc.1, 1200, .inl c_pastRights))] (fX12_laysBack N c_rules c_lefts c_sizes c_rights c_pastRules c_pastLefts c_pastSizes c_pastRights p1) (fun (u : Int32 × (Nat → Int32) × (Nat → Int32) × (Nat → Int32)) => [(h_, .inr (12, [.int u.1, .ref h_lefts, .ref h_sizes, .ref h_rights, g_edits, .ref h_pastRules, .ref h_pastLefts, .ref h_pastSizes, .ref h_pastRights, g_levels, g_codes, g_details, g_asked, g_isWorked, g_empties, g_firsts, g_follows, g_isKept, g_keptEmpties, g_keptFirsts, g_keptFollows, g_strings, g_longs, g_trial, g_trialLong, g_foundName, g_foundToken, g_foundP, g_foundQ, g_moved, g_movedSizes, g_synchronizing, g_input, g_inputLong, g_stack, g_stackParents, g_top, g_at, g_steps, g_traced, g_traces, g_nodes, g_made, g_nodeSymbols, g_nodeParents, g_errors, g_errorAts, g_errorKinds, g_errorTops, g_weights, g_bests, g_bestLongs, g_partly, g_partlyLongs, g_repaired, g_repairedLong])), (h_lefts, .inl (tc.1, 24, .inl u.2.1)), (h_sizes, .inl (tc.1, 24, .inl u.2.2.1)), (h_rights, .inl (tc.1, 120, .inl u.2.2.2)), (h_pastRules, .inl (tc.1, 10, .inl c_pastRules)), (h_pastLefts, .inl (tc.1, 240, .inl c_pastLefts)), (h_pastSizes, .inl (tc.1, 240, .inl c_pastSizes)), (h_pastRights, .inl (tc.1, 1200, .inl c_pastRights))]) := by
  refine ctV_of (lv0 := [(0, .ref h_), (1, .int p1)]) (by decide +kernel) (Nat.le_of_ble_eq_true rfl) rfl (fun X C => ?_)
  unfold fX12_laysBack
  refine j_aload C d12_laysBack_0 0 rfl ?_
  refine j_aload C d12_laysBack_1 0 rfl ?_
  refine j_get C d12_laysBack_2 fl12_19 0 rfl rfl ?_
  refine j_iload C d12_laysBack_5 1 rfl ?_
  refine j_iald C d12_laysBack_6 4 rfl (fun x1 => ?_)
  refine j_putq C d12_laysBack_7 fq12_123 0 rfl rfl rfl (Nat.le_of_ble_eq_true rfl) (ws' := [(h_, .inr (12, [.int x1, .ref h_lefts, .ref h_sizes, .ref h_rights, g_edits, .ref h_pastRules, .ref h_pastLefts, .ref h_pastSizes, .ref h_pastRights, g_levels, g_codes, g_details, g_asked, g_isWorked, g_empties, g_firsts, g_follows, g_isKept, g_keptEmpties, g_keptFirsts, g_keptFollows, g_strings, g_longs, g_trial, g_trialLong, g_foundName, g_foundToken, g_foundP, g_foundQ, g_moved, g_movedSizes, g_synchronizing, g_input, g_inputLong, g_stack, g_stackParents, g_top, g_at, g_steps, g_traced, g_traces, g_nodes, g_made, g_nodeSymbols, g_nodeParents, g_errors, g_errorAts, g_errorKinds, g_errorTops, g_weights, g_bests, g_bestLongs, g_partly, g_partlyLongs, g_repaired, g_repairedLong])), (h_lefts, .inl (tc.1, 24, .inl c_lefts)), (h_sizes, .inl (tc.1, 24, .inl c_sizes)), (h_rights, .inl (tc.1, 120, .inl c_rights)), (h_pastRules, .inl (tc.1, 10, .inl c_pastRules)), (h_pastLefts, .inl (tc.1, 240, .inl c_pastLefts)), (h_pastSizes, .inl (tc.1, 240, .inl c_pastSizes)), (h_pastRights, .inl (tc.1, 1200, .inl c_pastRights))]) rfl ?_
  refine j_const C d12_laysBack_10 ?_
  refine j_istore C d12_laysBack_11 (by decide) (lv' := [(2, .int 0), (0, .ref h_), (1, .int p1)]) rfl ?_
  refine j_join2 58 (fun v2 v3 => [(h_, .inr (12, [.int x1, .ref h_lefts, .ref h_sizes, .ref h_rights, g_edits, .ref h_pastRules, .ref h_pastLefts, .ref h_pastSizes, .ref h_pastRights, g_levels, g_codes, g_details, g_asked, g_isWorked, g_empties, g_firsts, g_follows, g_isKept, g_keptEmpties, g_keptFirsts, g_keptFollows, g_strings, g_longs, g_trial, g_trialLong, g_foundName, g_foundToken, g_foundP, g_foundQ, g_moved, g_movedSizes, g_synchronizing, g_input, g_inputLong, g_stack, g_stackParents, g_top, g_at, g_steps, g_traced, g_traces, g_nodes, g_made, g_nodeSymbols, g_nodeParents, g_errors, g_errorAts, g_errorKinds, g_errorTops, g_weights, g_bests, g_bestLongs, g_partly, g_partlyLongs, g_repaired, g_repairedLong])), (h_lefts, .inl (tc.1, 24, .inl v2)), (h_sizes, .inl (tc.1, 24, .inl v3)), (h_rights, .inl (tc.1, 120, .inl c_rights)), (h_pastRules, .inl (tc.1, 10, .inl c_pastRules)), (h_pastLefts, .inl (tc.1, 240, .inl c_pastLefts)), (h_pastSizes, .inl (tc.1, 240, .inl c_pastSizes)), (h_pastRights, .inl (tc.1, 1200, .inl c_pastRights))]) (fun v2 v3 => [(0, .ref h_), (1, .int p1)]) (fun v2 v3 => []) (fun v2 v3 => ?_) (fun k13 hk13 => ?_)
  · refine j_const C d12_laysBack_58 ?_
    refine j_istore C d12_laysBack_59 (by decide) (lv' := [(2, .int 0), (0, .ref h_), (1, .int p1)]) rfl ?_
    refine j_join 89 (fun v4 => [(h_, .inr (12, [.int x1, .ref h_lefts, .ref h_sizes, .ref h_rights, g_edits, .ref h_pastRules, .ref h_pastLefts, .ref h_pastSizes, .ref h_pastRights, g_levels, g_codes, g_details, g_asked, g_isWorked, g_empties, g_firsts, g_follows, g_isKept, g_keptEmpties, g_keptFirsts, g_keptFollows, g_strings, g_longs, g_trial, g_trialLong, g_foundName, g_foundToken, g_foundP, g_foundQ, g_moved, g_movedSizes, g_synchronizing, g_input, g_inputLong, g_stack, g_stackParents, g_top, g_at, g_steps, g_traced, g_traces, g_nodes, g_made, g_nodeSymbols, g_nodeParents, g_errors, g_errorAts, g_errorKinds, g_errorTops, g_weights, g_bests, g_bestLongs, g_partly, g_partlyLongs, g_repaired, g_repairedLong])), (h_lefts, .inl (tc.1, 24, .inl v2)), (h_sizes, .inl (tc.1, 24, .inl v3)), (h_rights, .inl (tc.1, 120, .inl v4)), (h_pastRules, .inl (tc.1, 10, .inl c_pastRules)), (h_pastLefts, .inl (tc.1, 240, .inl c_pastLefts)), (h_pastSizes, .inl (tc.1, 240, .inl c_pastSizes)), (h_pastRights, .inl (tc.1, 1200, .inl c_pastRights))]) (fun v4 => []) (fun v4 => []) (fun v4 => ?_) (fun k5 hk5 => ?_)
    · exact j_vret C d12_laysBack_89 rfl
    · exact j_sub [1, 2, 0] rfl (j_loop2 (fun v6 v7 => [(h_, .inr (12, [.int x1, .ref h_lefts, .ref h_sizes, .ref h_rights, g_edits, .ref h_pastRules, .ref h_pastLefts, .ref h_pastSizes, .ref h_pastRights, g_levels, g_codes, g_details, g_asked, g_isWorked, g_empties, g_firsts, g_follows, g_isKept, g_keptEmpties, g_keptFirsts, g_keptFollows, g_strings, g_longs, g_trial, g_trialLong, g_foundName, g_foundToken, g_foundP, g_foundQ, g_moved, g_movedSizes, g_synchronizing, g_input, g_inputLong, g_stack, g_stackParents, g_top, g_at, g_steps, g_traced, g_traces, g_nodes, g_made, g_nodeSymbols, g_nodeParents, g_errors, g_errorAts, g_errorKinds, g_errorTops, g_weights, g_bests, g_bestLongs, g_partly, g_partlyLongs, g_repaired, g_repairedLong])), (h_lefts, .inl (tc.1, 24, .inl v2)), (h_sizes, .inl (tc.1, 24, .inl v3)), (h_rights, .inl (tc.1, 120, .inl v7)), (h_pastRules, .inl (tc.1, 10, .inl c_pastRules)), (h_pastLefts, .inl (tc.1, 240, .inl c_pastLefts)), (h_pastSizes, .inl (tc.1, 240, .inl c_pastSizes)), (h_pastRights, .inl (tc.1, 1200, .inl c_pastRights))]) (fun v6 v7 => [(0, .ref h_), (1, .int p1), (2, .int v6)]) (fun rc8 hrc8 v6 v7 => wX12_laysBack_60 C h_ h_lefts h_sizes h_rights h_pastRules h_pastLefts h_pastSizes h_pastRights g_edits g_levels g_codes g_details g_asked g_isWorked g_empties g_firsts g_follows g_isKept g_keptEmpties g_keptFirsts g_keptFollows g_strings g_longs g_trial g_trialLong g_foundName g_foundToken g_foundP g_foundQ g_moved g_movedSizes g_synchronizing g_input g_inputLong g_stack g_stackParents g_top g_at g_steps g_traced g_traces g_nodes g_made g_nodeSymbols g_nodeParents g_errors g_errorAts g_errorKinds g_errorTops g_weights g_bests g_bestLongs g_partly g_partlyLongs g_repaired g_repairedLong p1 c_pastRules c_pastLefts c_pastSizes c_pastRights x1 v2 v3 k5 hk5 rc8 hrc8 v6 v7) N _ _)
  · exact j_sub [1, 2, 0] rfl (j_loop3 (fun v14 v15 v16 => [(h_, .inr (12, [.int x1, .ref h_lefts, .ref h_sizes, .ref h_rights, g_edits, .ref h_pastRules, .ref h_pastLefts, .ref h_pastSizes, .ref h_pastRights, g_levels, g_codes, g_details, g_asked, g_isWorked, g_empties, g_firsts, g_follows, g_isKept, g_keptEmpties, g_keptFirsts, g_keptFollows, g_strings, g_longs, g_trial, g_trialLong, g_foundName, g_foundToken, g_foundP, g_foundQ, g_moved, g_movedSizes, g_synchronizing, g_input, g_inputLong, g_stack, g_stackParents, g_top, g_at, g_steps, g_traced, g_traces, g_nodes, g_made, g_nodeSymbols, g_nodeParents, g_errors, g_errorAts, g_errorKinds, g_errorTops, g_weights, g_bests, g_bestLongs, g_partly, g_partlyLongs, g_repaired, g_repairedLong])), (h_lefts, .inl (tc.1, 24, .inl v15)), (h_sizes, .inl (tc.1, 24, .inl v16)), (h_rights, .inl (tc.1, 120, .inl c_rights)), (h_pastRules, .inl (tc.1, 10, .inl c_pastRules)), (h_pastLefts, .inl (tc.1, 240, .inl c_pastLefts)), (h_pastSizes, .inl (tc.1, 240, .inl c_pastSizes)), (h_pastRights, .inl (tc.1, 1200, .inl c_pastRights))]) (fun v14 v15 v16 => [(0, .ref h_), (1, .int p1), (2, .int v14)]) (fun rc17 hrc17 v14 v15 v16 => wX12_laysBack_12 C h_ h_lefts h_sizes h_rights h_pastRules h_pastLefts h_pastSizes h_pastRights g_edits g_levels g_codes g_details g_asked g_isWorked g_empties g_firsts g_follows g_isKept g_keptEmpties g_keptFirsts g_keptFollows g_strings g_longs g_trial g_trialLong g_foundName g_foundToken g_foundP g_foundQ g_moved g_movedSizes g_synchronizing g_input g_inputLong g_stack g_stackParents g_top g_at g_steps g_traced g_traces g_nodes g_made g_nodeSymbols g_nodeParents g_errors g_errorAts g_errorKinds g_errorTops g_weights g_bests g_bestLongs g_partly g_partlyLongs g_repaired g_repairedLong p1 c_rights c_pastRules c_pastLefts c_pastSizes c_pastRights x1 k13 hk13 rc17 hrc17 v14 v15 v16) N _ _ _)

theorem d12_moves_0 : jda cX12_moves 0 0 1 := Or.inl ⟨0, by decide +kernel⟩
theorem d12_moves_1 : jd cX12_moves 1 (.getfield 19) 3 4 := by decide +kernel
theorem d12_moves_4 : jdi cX12_moves 4 1 5 := Or.inl ⟨1, by decide +kernel⟩
theorem d12_moves_5 : jdk cX12_moves 5 1 6 := Or.inl ⟨1, by decide +kernel⟩
theorem d12_moves_6 : jd cX12_moves 6 (.isub) 1 7 := by decide +kernel
theorem d12_moves_7 : jda cX12_moves 7 0 8 := Or.inl ⟨0, by decide +kernel⟩
theorem d12_moves_8 : jd cX12_moves 8 (.getfield 19) 3 11 := by decide +kernel
theorem d12_moves_11 : jdi cX12_moves 11 1 12 := Or.inl ⟨1, by decide +kernel⟩
theorem d12_moves_12 : jd cX12_moves 12 (.iaload) 1 13 := by decide +kernel
theorem d12_moves_13 : jd cX12_moves 13 (.iastore) 1 14 := by decide +kernel
theorem d12_moves_14 : jdk cX12_moves 14 0 15 := Or.inl ⟨0, by decide +kernel⟩
theorem d12_moves_15 : jds cX12_moves 15 2 16 := Or.inl ⟨2, by decide +kernel⟩
theorem d12_moves_16 : jdi cX12_moves 16 2 17 := Or.inl ⟨2, by decide +kernel⟩
theorem d12_moves_17 : jdk cX12_moves 17 24 19 := Or.inr (Or.inl ⟨24, by decide +kernel⟩)
theorem d12_moves_19 : jdb cX12_moves 19 (.if_icmp .ge 57) 57 76 22 := by decide +kernel
theorem d12_moves_22 : jda cX12_moves 22 0 23 := Or.inl ⟨0, by decide +kernel⟩
theorem d12_moves_23 : jd cX12_moves 23 (.getfield 22) 3 26 := by decide +kernel
theorem d12_moves_26 : jdk cX12_moves 26 24 28 := Or.inr (Or.inl ⟨24, by decide +kernel⟩)
theorem d12_moves_28 : jdi cX12_moves 28 1 29 := Or.inl ⟨1, by decide +kernel⟩
theorem d12_moves_29 : jdk cX12_moves 29 1 30 := Or.inl ⟨1, by decide +kernel⟩
theorem d12_moves_30 : jd cX12_moves 30 (.isub) 1 31 := by decide +kernel
theorem d12_moves_31 : jd cX12_moves 31 (.imul) 1 32 := by decide +kernel
theorem d12_moves_32 : jdi cX12_moves 32 2 33 := Or.inl ⟨2, by decide +kernel⟩
theorem d12_moves_33 : jd cX12_moves 33 (.iadd) 1 34 := by decide +kernel
theorem d12_moves_34 : jda cX12_moves 34 0 35 := Or.inl ⟨0, by decide +kernel⟩
theorem d12_moves_35 : jd cX12_moves 35 (.getfield 22) 3 38 := by decide +kernel
theorem d12_moves_38 : jdk cX12_moves 38 24 40 := Or.inr (Or.inl ⟨24, by decide +kernel⟩)
theorem d12_moves_40 : jdi cX12_moves 40 1 41 := Or.inl ⟨1, by decide +kernel⟩
theorem d12_moves_41 : jd cX12_moves 41 (.imul) 1 42 := by decide +kernel
theorem d12_moves_42 : jdi cX12_moves 42 2 43 := Or.inl ⟨2, by decide +kernel⟩
theorem d12_moves_43 : jd cX12_moves 43 (.iadd) 1 44 := by decide +kernel
theorem d12_moves_44 : jd cX12_moves 44 (.iaload) 1 45 := by decide +kernel
theorem d12_moves_45 : jd cX12_moves 45 (.iastore) 1 46 := by decide +kernel
theorem d12_moves_46 : jda cX12_moves 46 0 47 := Or.inl ⟨0, by decide +kernel⟩
theorem d12_moves_47 : jd cX12_moves 47 (.getfield 25) 3 50 := by decide +kernel
theorem d12_moves_50 : jdk cX12_moves 50 24 52 := Or.inr (Or.inl ⟨24, by decide +kernel⟩)
theorem d12_moves_52 : jdi cX12_moves 52 1 53 := Or.inl ⟨1, by decide +kernel⟩
theorem d12_moves_53 : jdk cX12_moves 53 1 54 := Or.inl ⟨1, by decide +kernel⟩
theorem d12_moves_54 : jd cX12_moves 54 (.isub) 1 55 := by decide +kernel
theorem d12_moves_55 : jd cX12_moves 55 (.imul) 1 56 := by decide +kernel
theorem d12_moves_56 : jdi cX12_moves 56 2 57 := Or.inl ⟨2, by decide +kernel⟩
theorem d12_moves_57 : jd cX12_moves 57 (.iadd) 1 58 := by decide +kernel
theorem d12_moves_58 : jda cX12_moves 58 0 59 := Or.inl ⟨0, by decide +kernel⟩
theorem d12_moves_59 : jd cX12_moves 59 (.getfield 25) 3 62 := by decide +kernel
theorem d12_moves_62 : jdk cX12_moves 62 24 64 := Or.inr (Or.inl ⟨24, by decide +kernel⟩)
theorem d12_moves_64 : jdi cX12_moves 64 1 65 := Or.inl ⟨1, by decide +kernel⟩
theorem d12_moves_65 : jd cX12_moves 65 (.imul) 1 66 := by decide +kernel
theorem d12_moves_66 : jdi cX12_moves 66 2 67 := Or.inl ⟨2, by decide +kernel⟩
theorem d12_moves_67 : jd cX12_moves 67 (.iadd) 1 68 := by decide +kernel
theorem d12_moves_68 : jd cX12_moves 68 (.iaload) 1 69 := by decide +kernel
theorem d12_moves_69 : jd cX12_moves 69 (.iastore) 1 70 := by decide +kernel
theorem d12_moves_70 : jd cX12_moves 70 (.iinc 2 1) 3 73 := by decide +kernel
theorem d12_moves_73 : jdb cX12_moves 73 (.goto (-57)) (-57) 16 76 := by decide +kernel
theorem d12_moves_76 : jdk cX12_moves 76 0 77 := Or.inl ⟨0, by decide +kernel⟩
theorem d12_moves_77 : jds cX12_moves 77 2 78 := Or.inl ⟨2, by decide +kernel⟩
theorem d12_moves_78 : jdi cX12_moves 78 2 79 := Or.inl ⟨2, by decide +kernel⟩
theorem d12_moves_79 : jdk cX12_moves 79 120 81 := Or.inr (Or.inl ⟨120, by decide +kernel⟩)
theorem d12_moves_81 : jdb cX12_moves 81 (.if_icmp .ge 33) 33 114 84 := by decide +kernel
theorem d12_moves_84 : jda cX12_moves 84 0 85 := Or.inl ⟨0, by decide +kernel⟩
theorem d12_moves_85 : jd cX12_moves 85 (.getfield 28) 3 88 := by decide +kernel
theorem d12_moves_88 : jdk cX12_moves 88 120 90 := Or.inr (Or.inl ⟨120, by decide +kernel⟩)
theorem d12_moves_90 : jdi cX12_moves 90 1 91 := Or.inl ⟨1, by decide +kernel⟩
theorem d12_moves_91 : jdk cX12_moves 91 1 92 := Or.inl ⟨1, by decide +kernel⟩
theorem d12_moves_92 : jd cX12_moves 92 (.isub) 1 93 := by decide +kernel
theorem d12_moves_93 : jd cX12_moves 93 (.imul) 1 94 := by decide +kernel
theorem d12_moves_94 : jdi cX12_moves 94 2 95 := Or.inl ⟨2, by decide +kernel⟩
theorem d12_moves_95 : jd cX12_moves 95 (.iadd) 1 96 := by decide +kernel
theorem d12_moves_96 : jda cX12_moves 96 0 97 := Or.inl ⟨0, by decide +kernel⟩
theorem d12_moves_97 : jd cX12_moves 97 (.getfield 28) 3 100 := by decide +kernel
theorem d12_moves_100 : jdk cX12_moves 100 120 102 := Or.inr (Or.inl ⟨120, by decide +kernel⟩)
theorem d12_moves_102 : jdi cX12_moves 102 1 103 := Or.inl ⟨1, by decide +kernel⟩
theorem d12_moves_103 : jd cX12_moves 103 (.imul) 1 104 := by decide +kernel
theorem d12_moves_104 : jdi cX12_moves 104 2 105 := Or.inl ⟨2, by decide +kernel⟩
theorem d12_moves_105 : jd cX12_moves 105 (.iadd) 1 106 := by decide +kernel
theorem d12_moves_106 : jd cX12_moves 106 (.iaload) 1 107 := by decide +kernel
theorem d12_moves_107 : jd cX12_moves 107 (.iastore) 1 108 := by decide +kernel
theorem d12_moves_108 : jd cX12_moves 108 (.iinc 2 1) 3 111 := by decide +kernel
theorem d12_moves_111 : jdb cX12_moves 111 (.goto (-33)) (-33) 78 114 := by decide +kernel
theorem d12_moves_114 : decode cX12_moves 114 = .ok (.return_, 1) := by decide +kernel
set_option maxHeartbeats 4000000 in
set_option maxRecDepth 100000 in
theorem wX12_moves_78 {X : jC} {tc : jTC} (C : jx X cX12_moves 3 RX12 none tc ({ frames := 0, cells := 0, slots := 0, locals := 0 } : Room)) (h_ h_pastRules h_pastLefts h_pastSizes h_pastRights : Nat) (g_rules g_lefts g_sizes g_rights g_edits g_levels g_codes g_details g_asked g_isWorked g_empties g_firsts g_follows g_isKept g_keptEmpties g_keptFirsts g_keptFollows g_strings g_longs g_trial g_trialLong g_foundName g_foundToken g_foundP g_foundQ g_moved g_movedSizes g_synchronizing g_input g_inputLong g_stack g_stackParents g_top g_at g_steps g_traced g_traces g_nodes g_made g_nodeSymbols g_nodeParents g_errors g_errorAts g_errorKinds g_errorTops g_weights g_bests g_bestLongs g_partly g_partlyLongs g_repaired g_repairedLong : Value) (p1 : Int32) (f2 : (Nat → Int32)) (v3 : (Nat → Int32)) (v4 : (Nat → Int32)) (k6 : ((Nat → Int32) → Option ((Nat → Int32) × (Nat → Int32) × (Nat → Int32) × (Nat → Int32)))) (hk6 : ∀ (v13 : (Nat → Int32)), jo X 3 (0, 0) (jQV X (fun (u : (Nat → Int32) × (Nat → Int32) × (Nat → Int32) × (Nat → Int32)) => [(h_, .inr (12, [g_rules, g_lefts, g_sizes, g_rights, g_edits, .ref h_pastRules, .ref h_pastLefts, .ref h_pastSizes, .ref h_pastRights, g_levels, g_codes, g_details, g_asked, g_isWorked, g_empties, g_firsts, g_follows, g_isKept, g_keptEmpties, g_keptFirsts, g_keptFollows, g_strings, g_longs, g_trial, g_trialLong, g_foundName, g_foundToken, g_foundP, g_foundQ, g_moved, g_movedSizes, g_synchronizing, g_input, g_inputLong, g_stack, g_stackParents, g_top, g_at, g_steps, g_traced, g_traces, g_nodes, g_made, g_nodeSymbols, g_nodeParents, g_errors, g_errorAts, g_errorKinds, g_errorTops, g_weights, g_bests, g_bestLongs, g_partly, g_partlyLongs, g_repaired, g_repairedLong])), (h_pastRules, .inl (tc.1, 10, .inl u.1)), (h_pastLefts, .inl (tc.1, 240, .inl u.2.1)), (h_pastSizes, .inl (tc.1, 240, .inl u.2.2.1)), (h_pastRights, .inl (tc.1, 1200, .inl u.2.2.2))])) (k6 v13) [(h_, .inr (12, [g_rules, g_lefts, g_sizes, g_rights, g_edits, .ref h_pastRules, .ref h_pastLefts, .ref h_pastSizes, .ref h_pastRights, g_levels, g_codes, g_details, g_asked, g_isWorked, g_empties, g_firsts, g_follows, g_isKept, g_keptEmpties, g_keptFirsts, g_keptFollows, g_strings, g_longs, g_trial, g_trialLong, g_foundName, g_foundToken, g_foundP, g_foundQ, g_moved, g_movedSizes, g_synchronizing, g_input, g_inputLong, g_stack, g_stackParents, g_top, g_at, g_steps, g_traced, g_traces, g_nodes, g_made, g_nodeSymbols, g_nodeParents, g_errors, g_errorAts, g_errorKinds, g_errorTops, g_weights, g_bests, g_bestLongs, g_partly, g_partlyLongs, g_repaired, g_repairedLong])), (h_pastRules, .inl (tc.1, 10, .inl f2)), (h_pastLefts, .inl (tc.1, 240, .inl v3)), (h_pastSizes, .inl (tc.1, 240, .inl v4)), (h_pastRights, .inl (tc.1, 1200, .inl v13))] 114 [] []) (rc9 : Int32 → (Nat → Int32) → Option ((Nat → Int32) × (Nat → Int32) × (Nat → Int32) × (Nat → Int32))) (hrc9 : ∀ (v7 : Int32) (v8 : (Nat → Int32)), jo X 3 (0, 0) (jQV X (fun (u : (Nat → Int32) × (Nat → Int32) × (Nat → Int32) × (Nat → Int32)) => [(h_, .inr (12, [g_rules, g_lefts, g_sizes, g_rights, g_edits, .ref h_pastRules, .ref h_pastLefts, .ref h_pastSizes, .ref h_pastRights, g_levels, g_codes, g_details, g_asked, g_isWorked, g_empties, g_firsts, g_follows, g_isKept, g_keptEmpties, g_keptFirsts, g_keptFollows, g_strings, g_longs, g_trial, g_trialLong, g_foundName, g_foundToken, g_foundP, g_foundQ, g_moved, g_movedSizes, g_synchronizing, g_input, g_inputLong, g_stack, g_stackParents, g_top, g_at, g_steps, g_traced, g_traces, g_nodes, g_made, g_nodeSymbols, g_nodeParents, g_errors, g_errorAts, g_errorKinds, g_errorTops, g_weights, g_bests, g_bestLongs, g_partly, g_partlyLongs, g_repaired, g_repairedLong])), (h_pastRules, .inl (tc.1, 10, .inl u.1)), (h_pastLefts, .inl (tc.1, 240, .inl u.2.1)), (h_pastSizes, .inl (tc.1, 240, .inl u.2.2.1)), (h_pastRights, .inl (tc.1, 1200, .inl u.2.2.2))])) (rc9 v7 v8) [(h_, .inr (12, [g_rules, g_lefts, g_sizes, g_rights, g_edits, .ref h_pastRules, .ref h_pastLefts, .ref h_pastSizes, .ref h_pastRights, g_levels, g_codes, g_details, g_asked, g_isWorked, g_empties, g_firsts, g_follows, g_isKept, g_keptEmpties, g_keptFirsts, g_keptFollows, g_strings, g_longs, g_trial, g_trialLong, g_foundName, g_foundToken, g_foundP, g_foundQ, g_moved, g_movedSizes, g_synchronizing, g_input, g_inputLong, g_stack, g_stackParents, g_top, g_at, g_steps, g_traced, g_traces, g_nodes, g_made, g_nodeSymbols, g_nodeParents, g_errors, g_errorAts, g_errorKinds, g_errorTops, g_weights, g_bests, g_bestLongs, g_partly, g_partlyLongs, g_repaired, g_repairedLong])), (h_pastRules, .inl (tc.1, 10, .inl f2)), (h_pastLefts, .inl (tc.1, 240, .inl v3)), (h_pastSizes, .inl (tc.1, 240, .inl v4)), (h_pastRights, .inl (tc.1, 1200, .inl v8))] 78 [(0, .ref h_), (1, .int p1), (2, .int v7)] []) (v7 : Int32) (v8 : (Nat → Int32)) : jo X 3 (0, 0) (jQV X (fun (u : (Nat → Int32) × (Nat → Int32) × (Nat → Int32) × (Nat → Int32)) => [(h_, .inr (12, [g_rules, g_lefts, g_sizes, g_rights, g_edits, .ref h_pastRules, .ref h_pastLefts, .ref h_pastSizes, .ref h_pastRights, g_levels, g_codes, g_details, g_asked, g_isWorked, g_empties, g_firsts, g_follows, g_isKept, g_keptEmpties, g_keptFirsts, g_keptFollows, g_strings, g_longs, g_trial, g_trialLong, g_foundName, g_foundToken, g_foundP, g_foundQ, g_moved, g_movedSizes, g_synchronizing, g_input, g_inputLong, g_stack, g_stackParents, g_top, g_at, g_steps, g_traced, g_traces, g_nodes, g_made, g_nodeSymbols, g_nodeParents, g_errors, g_errorAts, g_errorKinds, g_errorTops, g_weights, g_bests, g_bestLongs, g_partly, g_partlyLongs, g_repaired, g_repairedLong])), (h_pastRules, .inl (tc.1, 10, .inl u.1)), (h_pastLefts, .inl (tc.1, 240, .inl u.2.1)), (h_pastSizes, .inl (tc.1, 240, .inl u.2.2.1)), (h_pastRights, .inl (tc.1, 1200, .inl u.2.2.2))])) (bX12_moves_78 p1 k6 rc9 v7 v8) [(h_, .inr (12, [g_rules, g_lefts, g_sizes, g_rights, g_edits, .ref h_pastRules, .ref h_pastLefts, .ref h_pastSizes, .ref h_pastRights, g_levels, g_codes, g_details, g_asked, g_isWorked, g_empties, g_firsts, g_follows, g_isKept, g_keptEmpties, g_keptFirsts, g_keptFollows, g_strings, g_longs, g_trial, g_trialLong, g_foundName, g_foundToken, g_foundP, g_foundQ, g_moved, g_movedSizes, g_synchronizing, g_input, g_inputLong, g_stack, g_stackParents, g_top, g_at, g_steps, g_traced, g_traces, g_nodes, g_made, g_nodeSymbols, g_nodeParents, g_errors, g_errorAts, g_errorKinds, g_errorTops, g_weights, g_bests, g_bestLongs, g_partly, g_partlyLongs, g_repaired, g_repairedLong])), (h_pastRules, .inl (tc.1, 10, .inl f2)), (h_pastLefts, .inl (tc.1, 240, .inl v3)), (h_pastSizes, .inl (tc.1, 240, .inl v4)), (h_pastRights, .inl (tc.1, 1200, .inl v8))] 78 [(0, .ref h_), (1, .int p1), (2, .int v7)] [] := by
  unfold bX12_moves_78
  refine j_iload C d12_moves_78 2 rfl ?_
  refine j_const C d12_moves_79 ?_
  refine j_icmp_ge C d12_moves_81 ?_ ?_
  · exact j_sub [] rfl (hk6 _)
  · refine j_aload C d12_moves_84 0 rfl ?_
    refine j_get C d12_moves_85 fl12_28 0 rfl rfl ?_
    refine j_const C d12_moves_88 ?_
    refine j_iload C d12_moves_90 1 rfl ?_
    refine j_const C d12_moves_91 ?_
    refine j_isub C d12_moves_92 ?_
    refine j_imul C d12_moves_93 ?_
    refine j_iload C d12_moves_94 2 rfl ?_
    refine j_iadd C d12_moves_95 ?_
    refine j_aload C d12_moves_96 0 rfl ?_
    refine j_get C d12_moves_97 fl12_28 0 rfl rfl ?_
    refine j_const C d12_moves_100 ?_
    refine j_iload C d12_moves_102 1 rfl ?_
    refine j_imul C d12_moves_103 ?_
    refine j_iload C d12_moves_104 2 rfl ?_
    refine j_iadd C d12_moves_105 ?_
    refine j_iald C d12_moves_106 4 rfl (fun x10 => ?_)
    refine j_iast C (fun f11 => [(h_, .inr (12, [g_rules, g_lefts, g_sizes, g_rights, g_edits, .ref h_pastRules, .ref h_pastLefts, .ref h_pastSizes, .ref h_pastRights, g_levels, g_codes, g_details, g_asked, g_isWorked, g_empties, g_firsts, g_follows, g_isKept, g_keptEmpties, g_keptFirsts, g_keptFollows, g_strings, g_longs, g_trial, g_trialLong, g_foundName, g_foundToken, g_foundP, g_foundQ, g_moved, g_movedSizes, g_synchronizing, g_input, g_inputLong, g_stack, g_stackParents, g_top, g_at, g_steps, g_traced, g_traces, g_nodes, g_made, g_nodeSymbols, g_nodeParents, g_errors, g_errorAts, g_errorKinds, g_errorTops, g_weights, g_bests, g_bestLongs, g_partly, g_partlyLongs, g_repaired, g_repairedLong])), (h_pastRules, .inl (tc.1, 10, .inl f2)), (h_pastLefts, .inl (tc.1, 240, .inl v3)), (h_pastSizes, .inl (tc.1, 240, .inl v4)), (h_pastRights, .inl (tc.1, 1200, .inl f11))]) d12_moves_107 4 rfl (fun _ => rfl) (fun f11 => ?_)
    refine j_iincN C (fun x12 => [(2, .int x12), (0, .ref h_), (1, .int p1)]) d12_moves_108 2 rfl (by decide +kernel) (by decide) (fun _ => rfl) (fun x12 => ?_)
    refine j_goto C d12_moves_111 ?_
    exact j_sub [1, 2, 0] rfl (hrc9 _ _)

set_option maxHeartbeats 4000000 in
set_option maxRecDepth 100000 in
theorem wX12_moves_16 {X : jC} {tc : jTC} (C : jx X cX12_moves 3 RX12 none tc ({ frames := 0, cells := 0, slots := 0, locals := 0 } : Room)) (h_ h_pastRules h_pastLefts h_pastSizes h_pastRights : Nat) (g_rules g_lefts g_sizes g_rights g_edits g_levels g_codes g_details g_asked g_isWorked g_empties g_firsts g_follows g_isKept g_keptEmpties g_keptFirsts g_keptFollows g_strings g_longs g_trial g_trialLong g_foundName g_foundToken g_foundP g_foundQ g_moved g_movedSizes g_synchronizing g_input g_inputLong g_stack g_stackParents g_top g_at g_steps g_traced g_traces g_nodes g_made g_nodeSymbols g_nodeParents g_errors g_errorAts g_errorKinds g_errorTops g_weights g_bests g_bestLongs g_partly g_partlyLongs g_repaired g_repairedLong : Value) (p1 : Int32) (c_pastRights : (Nat → Int32)) (f2 : (Nat → Int32)) (k14 : ((Nat → Int32) → (Nat → Int32) → Option ((Nat → Int32) × (Nat → Int32) × (Nat → Int32) × (Nat → Int32)))) (hk14 : ∀ (v24 : (Nat → Int32)) (v25 : (Nat → Int32)), jo X 3 (0, 0) (jQV X (fun (u : (Nat → Int32) × (Nat → Int32) × (Nat → Int32) × (Nat → Int32)) => [(h_, .inr (12, [g_rules, g_lefts, g_sizes, g_rights, g_edits, .ref h_pastRules, .ref h_pastLefts, .ref h_pastSizes, .ref h_pastRights, g_levels, g_codes, g_details, g_asked, g_isWorked, g_empties, g_firsts, g_follows, g_isKept, g_keptEmpties, g_keptFirsts, g_keptFollows, g_strings, g_longs, g_trial, g_trialLong, g_foundName, g_foundToken, g_foundP, g_foundQ, g_moved, g_movedSizes, g_synchronizing, g_input, g_inputLong, g_stack, g_stackParents, g_top, g_at, g_steps, g_traced, g_traces, g_nodes, g_made, g_nodeSymbols, g_nodeParents, g_errors, g_errorAts, g_errorKinds, g_errorTops, g_weights, g_bests, g_bestLongs, g_partly, g_partlyLongs, g_repaired, g_repairedLong])), (h_pastRules, .inl (tc.1, 10, .inl u.1)), (h_pastLefts, .inl (tc.1, 240, .inl u.2.1)), (h_pastSizes, .inl (tc.1, 240, .inl u.2.2.1)), (h_pastRights, .inl (tc.1, 1200, .inl u.2.2.2))])) (k14 v24 v25) [(h_, .inr (12, [g_rules, g_lefts, g_sizes, g_rights, g_edits, .ref h_pastRules, .ref h_pastLefts, .ref h_pastSizes, .ref h_pastRights, g_levels, g_codes, g_details, g_asked, g_isWorked, g_empties, g_firsts, g_follows, g_isKept, g_keptEmpties, g_keptFirsts, g_keptFollows, g_strings, g_longs, g_trial, g_trialLong, g_foundName, g_foundToken, g_foundP, g_foundQ, g_moved, g_movedSizes, g_synchronizing, g_input, g_inputLong, g_stack, g_stackParents, g_top, g_at, g_steps, g_traced, g_traces, g_nodes, g_made, g_nodeSymbols, g_nodeParents, g_errors, g_errorAts, g_errorKinds, g_errorTops, g_weights, g_bests, g_bestLongs, g_partly, g_partlyLongs, g_repaired, g_repairedLong])), (h_pastRules, .inl (tc.1, 10, .inl f2)), (h_pastLefts, .inl (tc.1, 240, .inl v24)), (h_pastSizes, .inl (tc.1, 240, .inl v25)), (h_pastRights, .inl (tc.1, 1200, .inl c_pastRights))] 76 [(0, .ref h_), (1, .int p1)] []) (rc18 : Int32 → (Nat → Int32) → (Nat → Int32) → Option ((Nat → Int32) × (Nat → Int32) × (Nat → Int32) × (Nat → Int32))) (hrc18 : ∀ (v15 : Int32) (v16 : (Nat → Int32)) (v17 : (Nat → Int32)), jo X 3 (0, 0) (jQV X (fun (u : (Nat → Int32) × (Nat → Int32) × (Nat → Int32) × (Nat → Int32)) => [(h_, .inr (12, [g_rules, g_lefts, g_sizes, g_rights, g_edits, .ref h_pastRules, .ref h_pastLefts, .ref h_pastSizes, .ref h_pastRights, g_levels, g_codes, g_details, g_asked, g_isWorked, g_empties, g_firsts, g_follows, g_isKept, g_keptEmpties, g_keptFirsts, g_keptFollows, g_strings, g_longs, g_trial, g_trialLong, g_foundName, g_foundToken, g_foundP, g_foundQ, g_moved, g_movedSizes, g_synchronizing, g_input, g_inputLong, g_stack, g_stackParents, g_top, g_at, g_steps, g_traced, g_traces, g_nodes, g_made, g_nodeSymbols, g_nodeParents, g_errors, g_errorAts, g_errorKinds, g_errorTops, g_weights, g_bests, g_bestLongs, g_partly, g_partlyLongs, g_repaired, g_repairedLong])), (h_pastRules, .inl (tc.1, 10, .inl u.1)), (h_pastLefts, .inl (tc.1, 240, .inl u.2.1)), (h_pastSizes, .inl (tc.1, 240, .inl u.2.2.1)), (h_pastRights, .inl (tc.1, 1200, .inl u.2.2.2))])) (rc18 v15 v16 v17) [(h_, .inr (12, [g_rules, g_lefts, g_sizes, g_rights, g_edits, .ref h_pastRules, .ref h_pastLefts, .ref h_pastSizes, .ref h_pastRights, g_levels, g_codes, g_details, g_asked, g_isWorked, g_empties, g_firsts, g_follows, g_isKept, g_keptEmpties, g_keptFirsts, g_keptFollows, g_strings, g_longs, g_trial, g_trialLong, g_foundName, g_foundToken, g_foundP, g_foundQ, g_moved, g_movedSizes, g_synchronizing, g_input, g_inputLong, g_stack, g_stackParents, g_top, g_at, g_steps, g_traced, g_traces, g_nodes, g_made, g_nodeSymbols, g_nodeParents, g_errors, g_errorAts, g_errorKinds, g_errorTops, g_weights, g_bests, g_bestLongs, g_partly, g_partlyLongs, g_repaired, g_repairedLong])), (h_pastRules, .inl (tc.1, 10, .inl f2)), (h_pastLefts, .inl (tc.1, 240, .inl v16)), (h_pastSizes, .inl (tc.1, 240, .inl v17)), (h_pastRights, .inl (tc.1, 1200, .inl c_pastRights))] 16 [(0, .ref h_), (1, .int p1), (2, .int v15)] []) (v15 : Int32) (v16 : (Nat → Int32)) (v17 : (Nat → Int32)) : jo X 3 (0, 0) (jQV X (fun (u : (Nat → Int32) × (Nat → Int32) × (Nat → Int32) × (Nat → Int32)) => [(h_, .inr (12, [g_rules, g_lefts, g_sizes, g_rights, g_edits, .ref h_pastRules, .ref h_pastLefts, .ref h_pastSizes, .ref h_pastRights, g_levels, g_codes, g_details, g_asked, g_isWorked, g_empties, g_firsts, g_follows, g_isKept, g_keptEmpties, g_keptFirsts, g_keptFollows, g_strings, g_longs, g_trial, g_trialLong, g_foundName, g_foundToken, g_foundP, g_foundQ, g_moved, g_movedSizes, g_synchronizing, g_input, g_inputLong, g_stack, g_stackParents, g_top, g_at, g_steps, g_traced, g_traces, g_nodes, g_made, g_nodeSymbols, g_nodeParents, g_errors, g_errorAts, g_errorKinds, g_errorTops, g_weights, g_bests, g_bestLongs, g_partly, g_partlyLongs, g_repaired, g_repairedLong])), (h_pastRules, .inl (tc.1, 10, .inl u.1)), (h_pastLefts, .inl (tc.1, 240, .inl u.2.1)), (h_pastSizes, .inl (tc.1, 240, .inl u.2.2.1)), (h_pastRights, .inl (tc.1, 1200, .inl u.2.2.2))])) (bX12_moves_16 p1 k14 rc18 v15 v16 v17) [(h_, .inr (12, [g_rules, g_lefts, g_sizes, g_rights, g_edits, .ref h_pastRules, .ref h_pastLefts, .ref h_pastSizes, .ref h_pastRights, g_levels, g_codes, g_details, g_asked, g_isWorked, g_empties, g_firsts, g_follows, g_isKept, g_keptEmpties, g_keptFirsts, g_keptFollows, g_strings, g_longs, g_trial, g_trialLong, g_foundName, g_foundToken, g_foundP, g_foundQ, g_moved, g_movedSizes, g_synchronizing, g_input, g_inputLong, g_stack, g_stackParents, g_top, g_at, g_steps, g_traced, g_traces, g_nodes, g_made, g_nodeSymbols, g_nodeParents, g_errors, g_errorAts, g_errorKinds, g_errorTops, g_weights, g_bests, g_bestLongs, g_partly, g_partlyLongs, g_repaired, g_repairedLong])), (h_pastRules, .inl (tc.1, 10, .inl f2)), (h_pastLefts, .inl (tc.1, 240, .inl v16)), (h_pastSizes, .inl (tc.1, 240, .inl v17)), (h_pastRights, .inl (tc.1, 1200, .inl c_pastRights))] 16 [(0, .ref h_), (1, .int p1), (2, .int v15)] [] := by
  unfold bX12_moves_16
  refine j_iload C d12_moves_16 2 rfl ?_
  refine j_const C d12_moves_17 ?_
  refine j_icmp_ge C d12_moves_19 ?_ ?_
  · exact j_sub [0, 1] rfl (hk14 _ _)
  · refine j_aload C d12_moves_22 0 rfl ?_
    refine j_get C d12_moves_23 fl12_22 0 rfl rfl ?_
    refine j_const C d12_moves_26 ?_
    refine j_iload C d12_moves_28 1 rfl ?_
    refine j_const C d12_moves_29 ?_
    refine j_isub C d12_moves_30 ?_
    refine j_imul C d12_moves_31 ?_
    refine j_iload C d12_moves_32 2 rfl ?_
    refine j_iadd C d12_moves_33 ?_
    refine j_aload C d12_moves_34 0 rfl ?_
    refine j_get C d12_moves_35 fl12_22 0 rfl rfl ?_
    refine j_const C d12_moves_38 ?_
    refine j_iload C d12_moves_40 1 rfl ?_
    refine j_imul C d12_moves_41 ?_
    refine j_iload C d12_moves_42 2 rfl ?_
    refine j_iadd C d12_moves_43 ?_
    refine j_iald C d12_moves_44 2 rfl (fun x19 => ?_)
    refine j_iast C (fun f20 => [(h_, .inr (12, [g_rules, g_lefts, g_sizes, g_rights, g_edits, .ref h_pastRules, .ref h_pastLefts, .ref h_pastSizes, .ref h_pastRights, g_levels, g_codes, g_details, g_asked, g_isWorked, g_empties, g_firsts, g_follows, g_isKept, g_keptEmpties, g_keptFirsts, g_keptFollows, g_strings, g_longs, g_trial, g_trialLong, g_foundName, g_foundToken, g_foundP, g_foundQ, g_moved, g_movedSizes, g_synchronizing, g_input, g_inputLong, g_stack, g_stackParents, g_top, g_at, g_steps, g_traced, g_traces, g_nodes, g_made, g_nodeSymbols, g_nodeParents, g_errors, g_errorAts, g_errorKinds, g_errorTops, g_weights, g_bests, g_bestLongs, g_partly, g_partlyLongs, g_repaired, g_repairedLong])), (h_pastRules, .inl (tc.1, 10, .inl f2)), (h_pastLefts, .inl (tc.1, 240, .inl f20)), (h_pastSizes, .inl (tc.1, 240, .inl v17)), (h_pastRights, .inl (tc.1, 1200, .inl c_pastRights))]) d12_moves_45 2 rfl (fun _ => rfl) (fun f20 => ?_)
    refine j_aload C d12_moves_46 0 rfl ?_
    refine j_get C d12_moves_47 fl12_25 0 rfl rfl ?_
    refine j_const C d12_moves_50 ?_
    refine j_iload C d12_moves_52 1 rfl ?_
    refine j_const C d12_moves_53 ?_
    refine j_isub C d12_moves_54 ?_
    refine j_imul C d12_moves_55 ?_
    refine j_iload C d12_moves_56 2 rfl ?_
    refine j_iadd C d12_moves_57 ?_
    refine j_aload C d12_moves_58 0 rfl ?_
    refine j_get C d12_moves_59 fl12_25 0 rfl rfl ?_
    refine j_const C d12_moves_62 ?_
    refine j_iload C d12_moves_64 1 rfl ?_
    refine j_imul C d12_moves_65 ?_
    refine j_iload C d12_moves_66 2 rfl ?_
    refine j_iadd C d12_moves_67 ?_
    refine j_iald C d12_moves_68 3 rfl (fun x21 => ?_)
    refine j_iast C (fun f22 => [(h_, .inr (12, [g_rules, g_lefts, g_sizes, g_rights, g_edits, .ref h_pastRules, .ref h_pastLefts, .ref h_pastSizes, .ref h_pastRights, g_levels, g_codes, g_details, g_asked, g_isWorked, g_empties, g_firsts, g_follows, g_isKept, g_keptEmpties, g_keptFirsts, g_keptFollows, g_strings, g_longs, g_trial, g_trialLong, g_foundName, g_foundToken, g_foundP, g_foundQ, g_moved, g_movedSizes, g_synchronizing, g_input, g_inputLong, g_stack, g_stackParents, g_top, g_at, g_steps, g_traced, g_traces, g_nodes, g_made, g_nodeSymbols, g_nodeParents, g_errors, g_errorAts, g_errorKinds, g_errorTops, g_weights, g_bests, g_bestLongs, g_partly, g_partlyLongs, g_repaired, g_repairedLong])), (h_pastRules, .inl (tc.1, 10, .inl f2)), (h_pastLefts, .inl (tc.1, 240, .inl f20)), (h_pastSizes, .inl (tc.1, 240, .inl f22)), (h_pastRights, .inl (tc.1, 1200, .inl c_pastRights))]) d12_moves_69 3 rfl (fun _ => rfl) (fun f22 => ?_)
    refine j_iincN C (fun x23 => [(2, .int x23), (0, .ref h_), (1, .int p1)]) d12_moves_70 2 rfl (by decide +kernel) (by decide) (fun _ => rfl) (fun x23 => ?_)
    refine j_goto C d12_moves_73 ?_
    exact j_sub [1, 2, 0] rfl (hrc18 _ _ _)

set_option maxHeartbeats 4000000 in
set_option maxRecDepth 100000 in
theorem kX12_moves (l : Launch) (D : va_G) (tc : jTC) (N : Nat) (h_ h_pastRules h_pastLefts h_pastSizes h_pastRights : Nat) (g_rules g_lefts g_sizes g_rights g_edits g_levels g_codes g_details g_asked g_isWorked g_empties g_firsts g_follows g_isKept g_keptEmpties g_keptFirsts g_keptFollows g_strings g_longs g_trial g_trialLong g_foundName g_foundToken g_foundP g_foundQ g_moved g_movedSizes g_synchronizing g_input g_inputLong g_stack g_stackParents g_top g_at g_steps g_traced g_traces g_nodes g_made g_nodeSymbols g_nodeParents g_errors g_errorAts g_errorKinds g_errorTops g_weights g_bests g_bestLongs g_partly g_partlyLongs g_repaired g_repairedLong : Value) (c_pastRules : (Nat → Int32)) (c_pastLefts : (Nat → Int32)) (c_pastSizes : (Nat → Int32)) (c_pastRights : (Nat → Int32)) (p1 : Int32) : ctV l D tc yX12_moves (Cond.code yX12_moves cX12_moves 3 none :: jtb) ({ frames := 0, cells := 0, slots := 0, locals := 0 } : Room) [.ref h_, .int p1] [(h_, .inr (12, [g_rules, g_lefts, g_sizes, g_rights, g_edits, .ref h_pastRules, .ref h_pastLefts, .ref h_pastSizes, .ref h_pastRights, g_levels, g_codes, g_details, g_asked, g_isWorked, g_empties, g_firsts, g_follows, g_isKept, g_keptEmpties, g_keptFirsts, g_keptFollows, g_strings, g_longs, g_trial, g_trialLong, g_foundName, g_foundToken, g_foundP, g_foundQ, g_moved, g_movedSizes, g_synchronizing, g_input, g_inputLong, g_stack, g_stackParents, g_top, g_at, g_steps, g_traced, g_traces, g_nodes, g_made, g_nodeSymbols, g_nodeParents, g_errors, g_errorAts, g_errorKinds, g_errorTops, g_weights, g_bests, g_bestLongs, g_partly, g_partlyLongs, g_repaired, g_repairedLong])), (h_pastRules, .inl (tc.1, 10, .inl c_pastRules)), (h_pastLefts, .inl (tc.1, 240, .inl c_pastLefts)), (h_pastSizes, .inl (tc.1, 240, .inl c_pastSizes)), (h_pastRights, .inl (tc.1, 1200, .inl c_pastRights))] (fX12_moves N c_pastRules c_pastLefts c_pastSizes c_pastRights p1) (fun (u : (Nat → Int32) × (Nat → Int32) × (Nat → Int32) × (Nat → Int32)) => [(h_, .inr (12, [g_rules, g_lefts, g_sizes, g_rights, g_edits, .ref h_pastRules, .ref h_pastLefts, .ref h_pastSizes, .ref h_pastRights, g_levels, g_codes, g_details, g_asked, g_isWorked, g_empties, g_firsts, g_follows, g_isKept, g_keptEmpties, g_keptFirsts, g_keptFollows, g_strings, g_longs, g_trial, g_trialLong, g_foundName, g_foundToken, g_foundP, g_foundQ, g_moved, g_movedSizes, g_synchronizing, g_input, g_inputLong, g_stack, g_stackParents, g_top, g_at, g_steps, g_traced, g_traces, g_nodes, g_made, g_nodeSymbols, g_nodeParents, g_errors, g_errorAts, g_errorKinds, g_errorTops, g_weights, g_bests, g_bestLongs, g_partly, g_partlyLongs, g_repaired, g_repairedLong])), (h_pastRules, .inl (tc.1, 10, .inl u.1)), (h_pastLefts, .inl (tc.1, 240, .inl u.2.1)), (h_pastSizes, .inl (tc.1, 240, .inl u.2.2.1)), (h_pastRights, .inl (tc.1, 1200, .inl u.2.2.2))]) := by
  refine ctV_of (lv0 := [(0, .ref h_), (1, .int p1)]) (by decide +kernel) (Nat.le_of_ble_eq_true rfl) rfl (fun X C => ?_)
  unfold fX12_moves
  refine j_aload C d12_moves_0 0 rfl ?_
  refine j_get C d12_moves_1 fl12_19 0 rfl rfl ?_
  refine j_iload C d12_moves_4 1 rfl ?_
  refine j_const C d12_moves_5 ?_
  refine j_isub C d12_moves_6 ?_
  refine j_aload C d12_moves_7 0 rfl ?_
  refine j_get C d12_moves_8 fl12_19 0 rfl rfl ?_
  refine j_iload C d12_moves_11 1 rfl ?_
  refine j_iald C d12_moves_12 1 rfl (fun x1 => ?_)
  refine j_iast C (fun f2 => [(h_, .inr (12, [g_rules, g_lefts, g_sizes, g_rights, g_edits, .ref h_pastRules, .ref h_pastLefts, .ref h_pastSizes, .ref h_pastRights, g_levels, g_codes, g_details, g_asked, g_isWorked, g_empties, g_firsts, g_follows, g_isKept, g_keptEmpties, g_keptFirsts, g_keptFollows, g_strings, g_longs, g_trial, g_trialLong, g_foundName, g_foundToken, g_foundP, g_foundQ, g_moved, g_movedSizes, g_synchronizing, g_input, g_inputLong, g_stack, g_stackParents, g_top, g_at, g_steps, g_traced, g_traces, g_nodes, g_made, g_nodeSymbols, g_nodeParents, g_errors, g_errorAts, g_errorKinds, g_errorTops, g_weights, g_bests, g_bestLongs, g_partly, g_partlyLongs, g_repaired, g_repairedLong])), (h_pastRules, .inl (tc.1, 10, .inl f2)), (h_pastLefts, .inl (tc.1, 240, .inl c_pastLefts)), (h_pastSizes, .inl (tc.1, 240, .inl c_pastSizes)), (h_pastRights, .inl (tc.1, 1200, .inl c_pastRights))]) d12_moves_13 1 rfl (fun _ => rfl) (fun f2 => ?_)
  refine j_const C d12_moves_14 ?_
  refine j_istore C d12_moves_15 (by decide) (lv' := [(2, .int 0), (0, .ref h_), (1, .int p1)]) rfl ?_
  refine j_join2 76 (fun v3 v4 => [(h_, .inr (12, [g_rules, g_lefts, g_sizes, g_rights, g_edits, .ref h_pastRules, .ref h_pastLefts, .ref h_pastSizes, .ref h_pastRights, g_levels, g_codes, g_details, g_asked, g_isWorked, g_empties, g_firsts, g_follows, g_isKept, g_keptEmpties, g_keptFirsts, g_keptFollows, g_strings, g_longs, g_trial, g_trialLong, g_foundName, g_foundToken, g_foundP, g_foundQ, g_moved, g_movedSizes, g_synchronizing, g_input, g_inputLong, g_stack, g_stackParents, g_top, g_at, g_steps, g_traced, g_traces, g_nodes, g_made, g_nodeSymbols, g_nodeParents, g_errors, g_errorAts, g_errorKinds, g_errorTops, g_weights, g_bests, g_bestLongs, g_partly, g_partlyLongs, g_repaired, g_repairedLong])), (h_pastRules, .inl (tc.1, 10, .inl f2)), (h_pastLefts, .inl (tc.1, 240, .inl v3)), (h_pastSizes, .inl (tc.1, 240, .inl v4)), (h_pastRights, .inl (tc.1, 1200, .inl c_pastRights))]) (fun v3 v4 => [(0, .ref h_), (1, .int p1)]) (fun v3 v4 => []) (fun v3 v4 => ?_) (fun k14 hk14 => ?_)
  · refine j_const C d12_moves_76 ?_
    refine j_istore C d12_moves_77 (by decide) (lv' := [(2, .int 0), (0, .ref h_), (1, .int p1)]) rfl ?_
    refine j_join 114 (fun v5 => [(h_, .inr (12, [g_rules, g_lefts, g_sizes, g_rights, g_edits, .ref h_pastRules, .ref h_pastLefts, .ref h_pastSizes, .ref h_pastRights, g_levels, g_codes, g_details, g_asked, g_isWorked, g_empties, g_firsts, g_follows, g_isKept, g_keptEmpties, g_keptFirsts, g_keptFollows, g_strings, g_longs, g_trial, g_trialLong, g_foundName, g_foundToken, g_foundP, g_foundQ, g_moved, g_movedSizes, g_synchronizing, g_input, g_inputLong, g_stack, g_stackParents, g_top, g_at, g_steps, g_traced, g_traces, g_nodes, g_made, g_nodeSymbols, g_nodeParents, g_errors, g_errorAts, g_errorKinds, g_errorTops, g_weights, g_bests, g_bestLongs, g_partly, g_partlyLongs, g_repaired, g_repairedLong])), (h_pastRules, .inl (tc.1, 10, .inl f2)), (h_pastLefts, .inl (tc.1, 240, .inl v3)), (h_pastSizes, .inl (tc.1, 240, .inl v4)), (h_pastRights, .inl (tc.1, 1200, .inl v5))]) (fun v5 => []) (fun v5 => []) (fun v5 => ?_) (fun k6 hk6 => ?_)
    · exact j_vret C d12_moves_114 rfl
    · exact j_sub [1, 2, 0] rfl (j_loop2 (fun v7 v8 => [(h_, .inr (12, [g_rules, g_lefts, g_sizes, g_rights, g_edits, .ref h_pastRules, .ref h_pastLefts, .ref h_pastSizes, .ref h_pastRights, g_levels, g_codes, g_details, g_asked, g_isWorked, g_empties, g_firsts, g_follows, g_isKept, g_keptEmpties, g_keptFirsts, g_keptFollows, g_strings, g_longs, g_trial, g_trialLong, g_foundName, g_foundToken, g_foundP, g_foundQ, g_moved, g_movedSizes, g_synchronizing, g_input, g_inputLong, g_stack, g_stackParents, g_top, g_at, g_steps, g_traced, g_traces, g_nodes, g_made, g_nodeSymbols, g_nodeParents, g_errors, g_errorAts, g_errorKinds, g_errorTops, g_weights, g_bests, g_bestLongs, g_partly, g_partlyLongs, g_repaired, g_repairedLong])), (h_pastRules, .inl (tc.1, 10, .inl f2)), (h_pastLefts, .inl (tc.1, 240, .inl v3)), (h_pastSizes, .inl (tc.1, 240, .inl v4)), (h_pastRights, .inl (tc.1, 1200, .inl v8))]) (fun v7 v8 => [(0, .ref h_), (1, .int p1), (2, .int v7)]) (fun rc9 hrc9 v7 v8 => wX12_moves_78 C h_ h_pastRules h_pastLefts h_pastSizes h_pastRights g_rules g_lefts g_sizes g_rights g_edits g_levels g_codes g_details g_asked g_isWorked g_empties g_firsts g_follows g_isKept g_keptEmpties g_keptFirsts g_keptFollows g_strings g_longs g_trial g_trialLong g_foundName g_foundToken g_foundP g_foundQ g_moved g_movedSizes g_synchronizing g_input g_inputLong g_stack g_stackParents g_top g_at g_steps g_traced g_traces g_nodes g_made g_nodeSymbols g_nodeParents g_errors g_errorAts g_errorKinds g_errorTops g_weights g_bests g_bestLongs g_partly g_partlyLongs g_repaired g_repairedLong p1 f2 v3 v4 k6 hk6 rc9 hrc9 v7 v8) N _ _)
  · exact j_sub [1, 2, 0] rfl (j_loop3 (fun v15 v16 v17 => [(h_, .inr (12, [g_rules, g_lefts, g_sizes, g_rights, g_edits, .ref h_pastRules, .ref h_pastLefts, .ref h_pastSizes, .ref h_pastRights, g_levels, g_codes, g_details, g_asked, g_isWorked, g_empties, g_firsts, g_follows, g_isKept, g_keptEmpties, g_keptFirsts, g_keptFollows, g_strings, g_longs, g_trial, g_trialLong, g_foundName, g_foundToken, g_foundP, g_foundQ, g_moved, g_movedSizes, g_synchronizing, g_input, g_inputLong, g_stack, g_stackParents, g_top, g_at, g_steps, g_traced, g_traces, g_nodes, g_made, g_nodeSymbols, g_nodeParents, g_errors, g_errorAts, g_errorKinds, g_errorTops, g_weights, g_bests, g_bestLongs, g_partly, g_partlyLongs, g_repaired, g_repairedLong])), (h_pastRules, .inl (tc.1, 10, .inl f2)), (h_pastLefts, .inl (tc.1, 240, .inl v16)), (h_pastSizes, .inl (tc.1, 240, .inl v17)), (h_pastRights, .inl (tc.1, 1200, .inl c_pastRights))]) (fun v15 v16 v17 => [(0, .ref h_), (1, .int p1), (2, .int v15)]) (fun rc18 hrc18 v15 v16 v17 => wX12_moves_16 C h_ h_pastRules h_pastLefts h_pastSizes h_pastRights g_rules g_lefts g_sizes g_rights g_edits g_levels g_codes g_details g_asked g_isWorked g_empties g_firsts g_follows g_isKept g_keptEmpties g_keptFirsts g_keptFollows g_strings g_longs g_trial g_trialLong g_foundName g_foundToken g_foundP g_foundQ g_moved g_movedSizes g_synchronizing g_input g_inputLong g_stack g_stackParents g_top g_at g_steps g_traced g_traces g_nodes g_made g_nodeSymbols g_nodeParents g_errors g_errorAts g_errorKinds g_errorTops g_weights g_bests g_bestLongs g_partly g_partlyLongs g_repaired g_repairedLong p1 c_pastRights f2 k14 hk14 rc18 hrc18 v15 v16 v17) N _ _ _)

theorem d12_isEmpty_0 : jdi cX12_isEmpty 0 1 1 := Or.inl ⟨1, by decide +kernel⟩
theorem d12_isEmpty_1 : jdk cX12_isEmpty 1 10 3 := Or.inr (Or.inl ⟨10, by decide +kernel⟩)
theorem d12_isEmpty_3 : jdb cX12_isEmpty 3 (.if_icmp .lt 22) 22 25 6 := by decide +kernel
theorem d12_isEmpty_6 : jda cX12_isEmpty 6 0 7 := Or.inl ⟨0, by decide +kernel⟩
theorem d12_isEmpty_7 : jd cX12_isEmpty 7 (.getfield 186) 3 10 := by decide +kernel
theorem d12_isEmpty_10 : jdi cX12_isEmpty 10 1 11 := Or.inl ⟨1, by decide +kernel⟩
theorem d12_isEmpty_11 : jdk cX12_isEmpty 11 10 13 := Or.inr (Or.inl ⟨10, by decide +kernel⟩)
theorem d12_isEmpty_13 : jd cX12_isEmpty 13 (.isub) 1 14 := by decide +kernel
theorem d12_isEmpty_14 : jd cX12_isEmpty 14 (.ishr) 1 15 := by decide +kernel
theorem d12_isEmpty_15 : jdk cX12_isEmpty 15 1 16 := Or.inl ⟨1, by decide +kernel⟩
theorem d12_isEmpty_16 : jd cX12_isEmpty 16 (.iand) 1 17 := by decide +kernel
theorem d12_isEmpty_17 : jdk cX12_isEmpty 17 1 18 := Or.inl ⟨1, by decide +kernel⟩
theorem d12_isEmpty_18 : jdb cX12_isEmpty 18 (.if_icmp .ne 7) 7 25 21 := by decide +kernel
theorem d12_isEmpty_21 : jdk cX12_isEmpty 21 1 22 := Or.inl ⟨1, by decide +kernel⟩
theorem d12_isEmpty_22 : jdb cX12_isEmpty 22 (.goto 4) 4 26 25 := by decide +kernel
theorem d12_isEmpty_25 : jdk cX12_isEmpty 25 0 26 := Or.inl ⟨0, by decide +kernel⟩
theorem d12_isEmpty_26 : decode cX12_isEmpty 26 = .ok (.ireturn, 1) := by decide +kernel
set_option maxHeartbeats 4000000 in
set_option maxRecDepth 100000 in
theorem kX12_isEmpty (l : Launch) (D : va_G) (tc : jTC) (h_ : Nat) (g_rules g_lefts g_sizes g_rights g_edits g_pastRules g_pastLefts g_pastSizes g_pastRights g_levels g_codes g_details g_asked g_isWorked g_firsts g_follows g_isKept g_keptEmpties g_keptFirsts g_keptFollows g_strings g_longs g_trial g_trialLong g_foundName g_foundToken g_foundP g_foundQ g_moved g_movedSizes g_synchronizing g_input g_inputLong g_stack g_stackParents g_top g_at g_steps g_traced g_traces g_nodes g_made g_nodeSymbols g_nodeParents g_errors g_errorAts g_errorKinds g_errorTops g_weights g_bests g_bestLongs g_partly g_partlyLongs g_repaired g_repairedLong : Value) (c_empties : Int32) (p1 : Int32) : ctI0 l D tc yX12_isEmpty (Cond.code yX12_isEmpty cX12_isEmpty 2 (some .boolean) :: jtb) ({ frames := 0, cells := 0, slots := 0, locals := 0 } : Room) [.ref h_, .int p1] [(h_, .inr (12, [g_rules, g_lefts, g_sizes, g_rights, g_edits, g_pastRules, g_pastLefts, g_pastSizes, g_pastRights, g_levels, g_codes, g_details, g_asked, g_isWorked, .int c_empties, g_firsts, g_follows, g_isKept, g_keptEmpties, g_keptFirsts, g_keptFollows, g_strings, g_longs, g_trial, g_trialLong, g_foundName, g_foundToken, g_foundP, g_foundQ, g_moved, g_movedSizes, g_synchronizing, g_input, g_inputLong, g_stack, g_stackParents, g_top, g_at, g_steps, g_traced, g_traces, g_nodes, g_made, g_nodeSymbols, g_nodeParents, g_errors, g_errorAts, g_errorKinds, g_errorTops, g_weights, g_bests, g_bestLongs, g_partly, g_partlyLongs, g_repaired, g_repairedLong]))] (fX12_isEmpty c_empties p1) := by
  refine ctI0_of (lv0 := [(0, .ref h_), (1, .int p1)]) (by decide +kernel) (Nat.le_of_ble_eq_true rfl) rfl (fun X C => ?_)
  unfold fX12_isEmpty
  refine j_iload C d12_isEmpty_0 1 rfl ?_
  refine j_const C d12_isEmpty_1 ?_
  refine j_join 26 (fun v1 => [(h_, .inr (12, [g_rules, g_lefts, g_sizes, g_rights, g_edits, g_pastRules, g_pastLefts, g_pastSizes, g_pastRights, g_levels, g_codes, g_details, g_asked, g_isWorked, .int c_empties, g_firsts, g_follows, g_isKept, g_keptEmpties, g_keptFirsts, g_keptFollows, g_strings, g_longs, g_trial, g_trialLong, g_foundName, g_foundToken, g_foundP, g_foundQ, g_moved, g_movedSizes, g_synchronizing, g_input, g_inputLong, g_stack, g_stackParents, g_top, g_at, g_steps, g_traced, g_traces, g_nodes, g_made, g_nodeSymbols, g_nodeParents, g_errors, g_errorAts, g_errorKinds, g_errorTops, g_weights, g_bests, g_bestLongs, g_partly, g_partlyLongs, g_repaired, g_repairedLong]))]) (fun v1 => []) (fun v1 => [.int v1]) (fun v1 => ?_) (fun k2 hk2 => ?_)
  · refine j_gz (fun hz => ?_)
    exact j_zret0 C hz d12_isEmpty_26
  · refine j_join 25 (fun v3 => [(h_, .inr (12, [g_rules, g_lefts, g_sizes, g_rights, g_edits, g_pastRules, g_pastLefts, g_pastSizes, g_pastRights, g_levels, g_codes, g_details, g_asked, g_isWorked, .int c_empties, g_firsts, g_follows, g_isKept, g_keptEmpties, g_keptFirsts, g_keptFollows, g_strings, g_longs, g_trial, g_trialLong, g_foundName, g_foundToken, g_foundP, g_foundQ, g_moved, g_movedSizes, g_synchronizing, g_input, g_inputLong, g_stack, g_stackParents, g_top, g_at, g_steps, g_traced, g_traces, g_nodes, g_made, g_nodeSymbols, g_nodeParents, g_errors, g_errorAts, g_errorKinds, g_errorTops, g_weights, g_bests, g_bestLongs, g_partly, g_partlyLongs, g_repaired, g_repairedLong]))]) (fun v3 => []) (fun v3 => []) (fun v3 => ?_) (fun k4 hk4 => ?_)
    · refine j_const C d12_isEmpty_25 ?_
      exact hk2 _
    · refine j_icmp_lt C d12_isEmpty_3 ?_ ?_
      · exact j_sub [] rfl (hk4 _)
      · refine j_aload C d12_isEmpty_6 0 rfl ?_
        refine j_get C d12_isEmpty_7 fl12_186 0 rfl rfl ?_
        refine j_iload C d12_isEmpty_10 1 rfl ?_
        refine j_const C d12_isEmpty_11 ?_
        refine j_isub C d12_isEmpty_13 ?_
        refine j_ishr C d12_isEmpty_14 ?_
        refine j_const C d12_isEmpty_15 ?_
        refine j_iand C d12_isEmpty_16 ?_
        refine j_const C d12_isEmpty_17 ?_
        refine j_icmp_ne C d12_isEmpty_18 ?_ ?_
        · exact j_sub [] rfl (hk4 _)
        · refine j_const C d12_isEmpty_21 ?_
          refine j_goto C d12_isEmpty_22 ?_
          exact j_sub [] rfl (hk2 _)

theorem d12_areEmpty_0 : jdi cX12_areEmpty 0 2 1 := Or.inl ⟨2, by decide +kernel⟩
theorem d12_areEmpty_1 : jds cX12_areEmpty 1 3 2 := Or.inl ⟨3, by decide +kernel⟩
theorem d12_areEmpty_2 : jdi cX12_areEmpty 2 3 3 := Or.inl ⟨3, by decide +kernel⟩
theorem d12_areEmpty_3 : jda cX12_areEmpty 3 0 4 := Or.inl ⟨0, by decide +kernel⟩
theorem d12_areEmpty_4 : jd cX12_areEmpty 4 (.getfield 13) 3 7 := by decide +kernel
theorem d12_areEmpty_7 : jdi cX12_areEmpty 7 1 8 := Or.inl ⟨1, by decide +kernel⟩
theorem d12_areEmpty_8 : jd cX12_areEmpty 8 (.iaload) 1 9 := by decide +kernel
theorem d12_areEmpty_9 : jdb cX12_areEmpty 9 (.if_icmp .ge 24) 24 33 12 := by decide +kernel
theorem d12_areEmpty_12 : jda cX12_areEmpty 12 0 13 := Or.inl ⟨0, by decide +kernel⟩
theorem d12_areEmpty_13 : jda cX12_areEmpty 13 0 14 := Or.inl ⟨0, by decide +kernel⟩
theorem d12_areEmpty_14 : jdi cX12_areEmpty 14 1 15 := Or.inl ⟨1, by decide +kernel⟩
theorem d12_areEmpty_15 : jdi cX12_areEmpty 15 3 16 := Or.inl ⟨3, by decide +kernel⟩
theorem d12_areEmpty_16 : jd cX12_areEmpty 16 (.invokevirtual 156) 3 19 := by decide +kernel
theorem d12_areEmpty_19 : jd cX12_areEmpty 19 (.invokevirtual 192) 3 22 := by decide +kernel
theorem d12_areEmpty_22 : jdb cX12_areEmpty 22 (.ifCond .ne 5) 5 27 25 := by decide +kernel
theorem d12_areEmpty_25 : jdk cX12_areEmpty 25 0 26 := Or.inl ⟨0, by decide +kernel⟩
theorem d12_areEmpty_26 : decode cX12_areEmpty 26 = .ok (.ireturn, 1) := by decide +kernel
theorem d12_areEmpty_27 : jd cX12_areEmpty 27 (.iinc 3 1) 3 30 := by decide +kernel
theorem d12_areEmpty_30 : jdb cX12_areEmpty 30 (.goto (-28)) (-28) 2 33 := by decide +kernel
theorem d12_areEmpty_33 : jdk cX12_areEmpty 33 1 34 := Or.inl ⟨1, by decide +kernel⟩
theorem d12_areEmpty_34 : decode cX12_areEmpty 34 = .ok (.ireturn, 1) := by decide +kernel
set_option maxHeartbeats 4000000 in
set_option maxRecDepth 100000 in
theorem wX12_areEmpty_2 {X : jC} {tc : jTC} (C : jx X cX12_areEmpty 4 RX12 (some .boolean) tc ({ frames := 1, cells := 0, slots := 0, locals := 22 } : Room)) (h_ h_sizes h_rights : Nat) (g_rules g_lefts g_edits g_pastRules g_pastLefts g_pastSizes g_pastRights g_levels g_codes g_details g_asked g_isWorked g_firsts g_follows g_isKept g_keptEmpties g_keptFirsts g_keptFollows g_strings g_longs g_trial g_trialLong g_foundName g_foundToken g_foundP g_foundQ g_moved g_movedSizes g_synchronizing g_input g_inputLong g_stack g_stackParents g_top g_at g_steps g_traced g_traces g_nodes g_made g_nodeSymbols g_nodeParents g_errors g_errorAts g_errorKinds g_errorTops g_weights g_bests g_bestLongs g_partly g_partlyLongs g_repaired g_repairedLong : Value) (p1 : Int32) (c_sizes : (Nat → Int32)) (c_rights : (Nat → Int32)) (c_empties : Int32) (k2 : (Unit → Option (Int32))) (hk2 : ∀ (v9 : Unit), jo X 4 (0, 0) (jQI0 X [(h_, .inr (12, [g_rules, g_lefts, .ref h_sizes, .ref h_rights, g_edits, g_pastRules, g_pastLefts, g_pastSizes, g_pastRights, g_levels, g_codes, g_details, g_asked, g_isWorked, .int c_empties, g_firsts, g_follows, g_isKept, g_keptEmpties, g_keptFirsts, g_keptFollows, g_strings, g_longs, g_trial, g_trialLong, g_foundName, g_foundToken, g_foundP, g_foundQ, g_moved, g_movedSizes, g_synchronizing, g_input, g_inputLong, g_stack, g_stackParents, g_top, g_at, g_steps, g_traced, g_traces, g_nodes, g_made, g_nodeSymbols, g_nodeParents, g_errors, g_errorAts, g_errorKinds, g_errorTops, g_weights, g_bests, g_bestLongs, g_partly, g_partlyLongs, g_repaired, g_repairedLong])), (h_sizes, .inl (tc.1, 24, .inl c_sizes)), (h_rights, .inl (tc.1, 120, .inl c_rights))]) (k2 v9) [(h_, .inr (12, [g_rules, g_lefts, .ref h_sizes, .ref h_rights, g_edits, g_pastRules, g_pastLefts, g_pastSizes, g_pastRights, g_levels, g_codes, g_details, g_asked, g_isWorked, .int c_empties, g_firsts, g_follows, g_isKept, g_keptEmpties, g_keptFirsts, g_keptFollows, g_strings, g_longs, g_trial, g_trialLong, g_foundName, g_foundToken, g_foundP, g_foundQ, g_moved, g_movedSizes, g_synchronizing, g_input, g_inputLong, g_stack, g_stackParents, g_top, g_at, g_steps, g_traced, g_traces, g_nodes, g_made, g_nodeSymbols, g_nodeParents, g_errors, g_errorAts, g_errorKinds, g_errorTops, g_weights, g_bests, g_bestLongs, g_partly, g_partlyLongs, g_repaired, g_repairedLong])), (h_sizes, .inl (tc.1, 24, .inl c_sizes)), (h_rights, .inl (tc.1, 120, .inl c_rights))] 33 [] []) (rc4 : Int32 → Option (Int32)) (hrc4 : ∀ (v3 : Int32), jo X 4 (0, 0) (jQI0 X [(h_, .inr (12, [g_rules, g_lefts, .ref h_sizes, .ref h_rights, g_edits, g_pastRules, g_pastLefts, g_pastSizes, g_pastRights, g_levels, g_codes, g_details, g_asked, g_isWorked, .int c_empties, g_firsts, g_follows, g_isKept, g_keptEmpties, g_keptFirsts, g_keptFollows, g_strings, g_longs, g_trial, g_trialLong, g_foundName, g_foundToken, g_foundP, g_foundQ, g_moved, g_movedSizes, g_synchronizing, g_input, g_inputLong, g_stack, g_stackParents, g_top, g_at, g_steps, g_traced, g_traces, g_nodes, g_made, g_nodeSymbols, g_nodeParents, g_errors, g_errorAts, g_errorKinds, g_errorTops, g_weights, g_bests, g_bestLongs, g_partly, g_partlyLongs, g_repaired, g_repairedLong])), (h_sizes, .inl (tc.1, 24, .inl c_sizes)), (h_rights, .inl (tc.1, 120, .inl c_rights))]) (rc4 v3) [(h_, .inr (12, [g_rules, g_lefts, .ref h_sizes, .ref h_rights, g_edits, g_pastRules, g_pastLefts, g_pastSizes, g_pastRights, g_levels, g_codes, g_details, g_asked, g_isWorked, .int c_empties, g_firsts, g_follows, g_isKept, g_keptEmpties, g_keptFirsts, g_keptFollows, g_strings, g_longs, g_trial, g_trialLong, g_foundName, g_foundToken, g_foundP, g_foundQ, g_moved, g_movedSizes, g_synchronizing, g_input, g_inputLong, g_stack, g_stackParents, g_top, g_at, g_steps, g_traced, g_traces, g_nodes, g_made, g_nodeSymbols, g_nodeParents, g_errors, g_errorAts, g_errorKinds, g_errorTops, g_weights, g_bests, g_bestLongs, g_partly, g_partlyLongs, g_repaired, g_repairedLong])), (h_sizes, .inl (tc.1, 24, .inl c_sizes)), (h_rights, .inl (tc.1, 120, .inl c_rights))] 2 [(0, .ref h_), (1, .int p1), (3, .int v3)] []) (v3 : Int32) : jo X 4 (0, 0) (jQI0 X [(h_, .inr (12, [g_rules, g_lefts, .ref h_sizes, .ref h_rights, g_edits, g_pastRules, g_pastLefts, g_pastSizes, g_pastRights, g_levels, g_codes, g_details, g_asked, g_isWorked, .int c_empties, g_firsts, g_follows, g_isKept, g_keptEmpties, g_keptFirsts, g_keptFollows, g_strings, g_longs, g_trial, g_trialLong, g_foundName, g_foundToken, g_foundP, g_foundQ, g_moved, g_movedSizes, g_synchronizing, g_input, g_inputLong, g_stack, g_stackParents, g_top, g_at, g_steps, g_traced, g_traces, g_nodes, g_made, g_nodeSymbols, g_nodeParents, g_errors, g_errorAts, g_errorKinds, g_errorTops, g_weights, g_bests, g_bestLongs, g_partly, g_partlyLongs, g_repaired, g_repairedLong])), (h_sizes, .inl (tc.1, 24, .inl c_sizes)), (h_rights, .inl (tc.1, 120, .inl c_rights))]) (bX12_areEmpty_2 p1 c_sizes c_rights c_empties k2 rc4 v3) [(h_, .inr (12, [g_rules, g_lefts, .ref h_sizes, .ref h_rights, g_edits, g_pastRules, g_pastLefts, g_pastSizes, g_pastRights, g_levels, g_codes, g_details, g_asked, g_isWorked, .int c_empties, g_firsts, g_follows, g_isKept, g_keptEmpties, g_keptFirsts, g_keptFollows, g_strings, g_longs, g_trial, g_trialLong, g_foundName, g_foundToken, g_foundP, g_foundQ, g_moved, g_movedSizes, g_synchronizing, g_input, g_inputLong, g_stack, g_stackParents, g_top, g_at, g_steps, g_traced, g_traces, g_nodes, g_made, g_nodeSymbols, g_nodeParents, g_errors, g_errorAts, g_errorKinds, g_errorTops, g_weights, g_bests, g_bestLongs, g_partly, g_partlyLongs, g_repaired, g_repairedLong])), (h_sizes, .inl (tc.1, 24, .inl c_sizes)), (h_rights, .inl (tc.1, 120, .inl c_rights))] 2 [(0, .ref h_), (1, .int p1), (3, .int v3)] [] := by
  unfold bX12_areEmpty_2
  refine j_iload C d12_areEmpty_2 2 rfl ?_
  refine j_aload C d12_areEmpty_3 0 rfl ?_
  refine j_get C d12_areEmpty_4 fl12_13 0 rfl rfl ?_
  refine j_iload C d12_areEmpty_7 1 rfl ?_
  refine j_iald C d12_areEmpty_8 1 rfl (fun x5 => ?_)
  refine j_icmp_ge C d12_areEmpty_9 ?_ ?_
  · exact j_sub [] rfl (hk2 _)
  · refine j_aload C d12_areEmpty_12 0 rfl ?_
    refine j_aload C d12_areEmpty_13 0 rfl ?_
    refine j_iload C d12_areEmpty_14 1 rfl ?_
    refine j_iload C d12_areEmpty_15 2 rfl ?_
    refine j_callVI0 (As := [.int p1, .int v3]) C d12_areEmpty_16 mv12_156 (kX12_symbol _ _ tc h_ h_rights g_rules g_lefts (.ref h_sizes) g_edits g_pastRules g_pastLefts g_pastSizes g_pastRights g_levels g_codes g_details g_asked g_isWorked (.int c_empties) g_firsts g_follows g_isKept g_keptEmpties g_keptFirsts g_keptFollows g_strings g_longs g_trial g_trialLong g_foundName g_foundToken g_foundP g_foundQ g_moved g_movedSizes g_synchronizing g_input g_inputLong g_stack g_stackParents g_top g_at g_steps g_traced g_traces g_nodes g_made g_nodeSymbols g_nodeParents g_errors g_errorAts g_errorKinds g_errorTops g_weights g_bests g_bestLongs g_partly g_partlyLongs g_repaired g_repairedLong c_rights p1 v3) ⟨rfl, rfl, Nat.le_of_ble_eq_true rfl, Nat.le_of_ble_eq_true rfl⟩ rfl 0 rfl [0, 2] rfl rfl rfl (Nat.le_of_ble_eq_true rfl) (fun x6 => ?_)
    refine j_callVI0 (As := [.int x6]) C d12_areEmpty_19 mv12_192 (kX12_isEmpty _ _ tc h_ g_rules g_lefts (.ref h_sizes) (.ref h_rights) g_edits g_pastRules g_pastLefts g_pastSizes g_pastRights g_levels g_codes g_details g_asked g_isWorked g_firsts g_follows g_isKept g_keptEmpties g_keptFirsts g_keptFollows g_strings g_longs g_trial g_trialLong g_foundName g_foundToken g_foundP g_foundQ g_moved g_movedSizes g_synchronizing g_input g_inputLong g_stack g_stackParents g_top g_at g_steps g_traced g_traces g_nodes g_made g_nodeSymbols g_nodeParents g_errors g_errorAts g_errorKinds g_errorTops g_weights g_bests g_bestLongs g_partly g_partlyLongs g_repaired g_repairedLong c_empties x6) ⟨rfl, rfl, Nat.le_of_ble_eq_true rfl, Nat.le_of_ble_eq_true rfl⟩ rfl 0 rfl [0] rfl rfl rfl (Nat.le_of_ble_eq_true rfl) (fun x7 => ?_)
    refine j_if_ne C d12_areEmpty_22 ?_ ?_
    · refine j_iincN C (fun x8 => [(3, .int x8), (0, .ref h_), (1, .int p1)]) d12_areEmpty_27 2 rfl (by decide +kernel) (by decide) (fun _ => rfl) (fun x8 => ?_)
      refine j_goto C d12_areEmpty_30 ?_
      exact j_sub [1, 2, 0] rfl (hrc4 _)
    · refine j_const C d12_areEmpty_25 ?_
      exact j_zret0 C (by decide) d12_areEmpty_26

set_option maxHeartbeats 4000000 in
set_option maxRecDepth 100000 in
theorem kX12_areEmpty (l : Launch) (D : va_G) (tc : jTC) (N : Nat) (h_ h_sizes h_rights : Nat) (g_rules g_lefts g_edits g_pastRules g_pastLefts g_pastSizes g_pastRights g_levels g_codes g_details g_asked g_isWorked g_firsts g_follows g_isKept g_keptEmpties g_keptFirsts g_keptFollows g_strings g_longs g_trial g_trialLong g_foundName g_foundToken g_foundP g_foundQ g_moved g_movedSizes g_synchronizing g_input g_inputLong g_stack g_stackParents g_top g_at g_steps g_traced g_traces g_nodes g_made g_nodeSymbols g_nodeParents g_errors g_errorAts g_errorKinds g_errorTops g_weights g_bests g_bestLongs g_partly g_partlyLongs g_repaired g_repairedLong : Value) (c_sizes : (Nat → Int32)) (c_rights : (Nat → Int32)) (c_empties : Int32) (p1 : Int32) (p2 : Int32) : ctI0 l D tc yX12_areEmpty (Cond.code yX12_areEmpty cX12_areEmpty 4 (some .boolean) :: jtb) ({ frames := 1, cells := 0, slots := 0, locals := 22 } : Room) [.ref h_, .int p1, .int p2] [(h_, .inr (12, [g_rules, g_lefts, .ref h_sizes, .ref h_rights, g_edits, g_pastRules, g_pastLefts, g_pastSizes, g_pastRights, g_levels, g_codes, g_details, g_asked, g_isWorked, .int c_empties, g_firsts, g_follows, g_isKept, g_keptEmpties, g_keptFirsts, g_keptFollows, g_strings, g_longs, g_trial, g_trialLong, g_foundName, g_foundToken, g_foundP, g_foundQ, g_moved, g_movedSizes, g_synchronizing, g_input, g_inputLong, g_stack, g_stackParents, g_top, g_at, g_steps, g_traced, g_traces, g_nodes, g_made, g_nodeSymbols, g_nodeParents, g_errors, g_errorAts, g_errorKinds, g_errorTops, g_weights, g_bests, g_bestLongs, g_partly, g_partlyLongs, g_repaired, g_repairedLong])), (h_sizes, .inl (tc.1, 24, .inl c_sizes)), (h_rights, .inl (tc.1, 120, .inl c_rights))] (fX12_areEmpty N c_sizes c_rights c_empties p1 p2) := by
  refine ctI0_of (lv0 := [(0, .ref h_), (1, .int p1), (2, .int p2)]) (by decide +kernel) (Nat.le_of_ble_eq_true rfl) rfl (fun X C => ?_)
  unfold fX12_areEmpty
  refine j_iload C d12_areEmpty_0 2 rfl ?_
  refine j_istore C d12_areEmpty_1 (by decide) (lv' := [(3, .int p2), (0, .ref h_), (1, .int p1), (2, .int p2)]) rfl ?_
  refine j_join 33 (fun v1 => [(h_, .inr (12, [g_rules, g_lefts, .ref h_sizes, .ref h_rights, g_edits, g_pastRules, g_pastLefts, g_pastSizes, g_pastRights, g_levels, g_codes, g_details, g_asked, g_isWorked, .int c_empties, g_firsts, g_follows, g_isKept, g_keptEmpties, g_keptFirsts, g_keptFollows, g_strings, g_longs, g_trial, g_trialLong, g_foundName, g_foundToken, g_foundP, g_foundQ, g_moved, g_movedSizes, g_synchronizing, g_input, g_inputLong, g_stack, g_stackParents, g_top, g_at, g_steps, g_traced, g_traces, g_nodes, g_made, g_nodeSymbols, g_nodeParents, g_errors, g_errorAts, g_errorKinds, g_errorTops, g_weights, g_bests, g_bestLongs, g_partly, g_partlyLongs, g_repaired, g_repairedLong])), (h_sizes, .inl (tc.1, 24, .inl c_sizes)), (h_rights, .inl (tc.1, 120, .inl c_rights))]) (fun v1 => []) (fun v1 => []) (fun v1 => ?_) (fun k2 hk2 => ?_)
  · refine j_const C d12_areEmpty_33 ?_
    exact j_zret0 C (by decide) d12_areEmpty_34
  · exact j_sub [1, 2, 0] rfl (j_loop (fun v3 => [(h_, .inr (12, [g_rules, g_lefts, .ref h_sizes, .ref h_rights, g_edits, g_pastRules, g_pastLefts, g_pastSizes, g_pastRights, g_levels, g_codes, g_details, g_asked, g_isWorked, .int c_empties, g_firsts, g_follows, g_isKept, g_keptEmpties, g_keptFirsts, g_keptFollows, g_strings, g_longs, g_trial, g_trialLong, g_foundName, g_foundToken, g_foundP, g_foundQ, g_moved, g_movedSizes, g_synchronizing, g_input, g_inputLong, g_stack, g_stackParents, g_top, g_at, g_steps, g_traced, g_traces, g_nodes, g_made, g_nodeSymbols, g_nodeParents, g_errors, g_errorAts, g_errorKinds, g_errorTops, g_weights, g_bests, g_bestLongs, g_partly, g_partlyLongs, g_repaired, g_repairedLong])), (h_sizes, .inl (tc.1, 24, .inl c_sizes)), (h_rights, .inl (tc.1, 120, .inl c_rights))]) (fun v3 => [(0, .ref h_), (1, .int p1), (3, .int v3)]) (fun rc4 hrc4 v3 => wX12_areEmpty_2 C h_ h_sizes h_rights g_rules g_lefts g_edits g_pastRules g_pastLefts g_pastSizes g_pastRights g_levels g_codes g_details g_asked g_isWorked g_firsts g_follows g_isKept g_keptEmpties g_keptFirsts g_keptFollows g_strings g_longs g_trial g_trialLong g_foundName g_foundToken g_foundP g_foundQ g_moved g_movedSizes g_synchronizing g_input g_inputLong g_stack g_stackParents g_top g_at g_steps g_traced g_traces g_nodes g_made g_nodeSymbols g_nodeParents g_errors g_errorAts g_errorKinds g_errorTops g_weights g_bests g_bestLongs g_partly g_partlyLongs g_repaired g_repairedLong p1 c_sizes c_rights c_empties k2 hk2 rc4 hrc4 v3) N _)

theorem d12_firstOf_0 : jdk cX12_firstOf 0 0 1 := Or.inl ⟨0, by decide +kernel⟩
theorem d12_firstOf_1 : jds cX12_firstOf 1 3 2 := Or.inl ⟨3, by decide +kernel⟩
theorem d12_firstOf_2 : jdi cX12_firstOf 2 2 3 := Or.inl ⟨2, by decide +kernel⟩
theorem d12_firstOf_3 : jds cX12_firstOf 3 4 5 := Or.inr (by decide +kernel)
theorem d12_firstOf_5 : jdi cX12_firstOf 5 4 7 := Or.inr (by decide +kernel)
theorem d12_firstOf_7 : jda cX12_firstOf 7 0 8 := Or.inl ⟨0, by decide +kernel⟩
theorem d12_firstOf_8 : jd cX12_firstOf 8 (.getfield 13) 3 11 := by decide +kernel
theorem d12_firstOf_11 : jdi cX12_firstOf 11 1 12 := Or.inl ⟨1, by decide +kernel⟩
theorem d12_firstOf_12 : jd cX12_firstOf 12 (.iaload) 1 13 := by decide +kernel
theorem d12_firstOf_13 : jdb cX12_firstOf 13 (.if_icmp .ge 56) 56 69 16 := by decide +kernel
theorem d12_firstOf_16 : jda cX12_firstOf 16 0 17 := Or.inl ⟨0, by decide +kernel⟩
theorem d12_firstOf_17 : jdi cX12_firstOf 17 1 18 := Or.inl ⟨1, by decide +kernel⟩
theorem d12_firstOf_18 : jdi cX12_firstOf 18 4 20 := Or.inr (by decide +kernel)
theorem d12_firstOf_20 : jd cX12_firstOf 20 (.invokevirtual 156) 3 23 := by decide +kernel
theorem d12_firstOf_23 : jds cX12_firstOf 23 5 25 := Or.inr (by decide +kernel)
theorem d12_firstOf_25 : jdi cX12_firstOf 25 3 26 := Or.inl ⟨3, by decide +kernel⟩
theorem d12_firstOf_26 : jdi cX12_firstOf 26 5 28 := Or.inr (by decide +kernel)
theorem d12_firstOf_28 : jdk cX12_firstOf 28 10 30 := Or.inr (Or.inl ⟨10, by decide +kernel⟩)
theorem d12_firstOf_30 : jdb cX12_firstOf 30 (.if_icmp .ge 10) 10 40 33 := by decide +kernel
theorem d12_firstOf_33 : jdk cX12_firstOf 33 1 34 := Or.inl ⟨1, by decide +kernel⟩
theorem d12_firstOf_34 : jdi cX12_firstOf 34 5 36 := Or.inr (by decide +kernel)
theorem d12_firstOf_36 : jd cX12_firstOf 36 (.ishl) 1 37 := by decide +kernel
theorem d12_firstOf_37 : jdb cX12_firstOf 37 (.goto 13) 13 50 40 := by decide +kernel
theorem d12_firstOf_40 : jda cX12_firstOf 40 0 41 := Or.inl ⟨0, by decide +kernel⟩
theorem d12_firstOf_41 : jd cX12_firstOf 41 (.getfield 40) 3 44 := by decide +kernel
theorem d12_firstOf_44 : jdi cX12_firstOf 44 5 46 := Or.inr (by decide +kernel)
theorem d12_firstOf_46 : jdk cX12_firstOf 46 10 48 := Or.inr (Or.inl ⟨10, by decide +kernel⟩)
theorem d12_firstOf_48 : jd cX12_firstOf 48 (.isub) 1 49 := by decide +kernel
theorem d12_firstOf_49 : jd cX12_firstOf 49 (.iaload) 1 50 := by decide +kernel
theorem d12_firstOf_50 : jd cX12_firstOf 50 (.ior) 1 51 := by decide +kernel
theorem d12_firstOf_51 : jds cX12_firstOf 51 3 52 := Or.inl ⟨3, by decide +kernel⟩
theorem d12_firstOf_52 : jda cX12_firstOf 52 0 53 := Or.inl ⟨0, by decide +kernel⟩
theorem d12_firstOf_53 : jdi cX12_firstOf 53 5 55 := Or.inr (by decide +kernel)
theorem d12_firstOf_55 : jd cX12_firstOf 55 (.invokevirtual 192) 3 58 := by decide +kernel
theorem d12_firstOf_58 : jdb cX12_firstOf 58 (.ifCond .ne 5) 5 63 61 := by decide +kernel
theorem d12_firstOf_61 : jdi cX12_firstOf 61 3 62 := Or.inl ⟨3, by decide +kernel⟩
theorem d12_firstOf_62 : decode cX12_firstOf 62 = .ok (.ireturn, 1) := by decide +kernel
theorem d12_firstOf_63 : jd cX12_firstOf 63 (.iinc 4 1) 3 66 := by decide +kernel
theorem d12_firstOf_66 : jdb cX12_firstOf 66 (.goto (-61)) (-61) 5 69 := by decide +kernel
theorem d12_firstOf_69 : jdi cX12_firstOf 69 3 70 := Or.inl ⟨3, by decide +kernel⟩
theorem d12_firstOf_70 : decode cX12_firstOf 70 = .ok (.ireturn, 1) := by decide +kernel
set_option maxHeartbeats 4000000 in
set_option maxRecDepth 100000 in
theorem wX12_firstOf_5 {X : jC} {tc : jTC} (C : jx X cX12_firstOf 6 RX12 (some .int) tc ({ frames := 1, cells := 0, slots := 0, locals := 22 } : Room)) (h_ h_sizes h_rights h_firsts : Nat) (g_rules g_lefts g_edits g_pastRules g_pastLefts g_pastSizes g_pastRights g_levels g_codes g_details g_asked g_isWorked g_follows g_isKept g_keptEmpties g_keptFirsts g_keptFollows g_strings g_longs g_trial g_trialLong g_foundName g_foundToken g_foundP g_foundQ g_moved g_movedSizes g_synchronizing g_input g_inputLong g_stack g_stackParents g_top g_at g_steps g_traced g_traces g_nodes g_made g_nodeSymbols g_nodeParents g_errors g_errorAts g_errorKinds g_errorTops g_weights g_bests g_bestLongs g_partly g_partlyLongs g_repaired g_repairedLong : Value) (p1 : Int32) (c_sizes : (Nat → Int32)) (c_rights : (Nat → Int32)) (c_empties : Int32) (c_firsts : (Nat → Int32)) (k2 : (Int32 → Option (Int32))) (hk2 : ∀ (v14 : Int32), jo X 6 (0, 0) (jQI0 X [(h_, .inr (12, [g_rules, g_lefts, .ref h_sizes, .ref h_rights, g_edits, g_pastRules, g_pastLefts, g_pastSizes, g_pastRights, g_levels, g_codes, g_details, g_asked, g_isWorked, .int c_empties, .ref h_firsts, g_follows, g_isKept, g_keptEmpties, g_keptFirsts, g_keptFollows, g_strings, g_longs, g_trial, g_trialLong, g_foundName, g_foundToken, g_foundP, g_foundQ, g_moved, g_movedSizes, g_synchronizing, g_input, g_inputLong, g_stack, g_stackParents, g_top, g_at, g_steps, g_traced, g_traces, g_nodes, g_made, g_nodeSymbols, g_nodeParents, g_errors, g_errorAts, g_errorKinds, g_errorTops, g_weights, g_bests, g_bestLongs, g_partly, g_partlyLongs, g_repaired, g_repairedLong])), (h_sizes, .inl (tc.1, 24, .inl c_sizes)), (h_rights, .inl (tc.1, 120, .inl c_rights)), (h_firsts, .inl (tc.1, 8, .inl c_firsts))]) (k2 v14) [(h_, .inr (12, [g_rules, g_lefts, .ref h_sizes, .ref h_rights, g_edits, g_pastRules, g_pastLefts, g_pastSizes, g_pastRights, g_levels, g_codes, g_details, g_asked, g_isWorked, .int c_empties, .ref h_firsts, g_follows, g_isKept, g_keptEmpties, g_keptFirsts, g_keptFollows, g_strings, g_longs, g_trial, g_trialLong, g_foundName, g_foundToken, g_foundP, g_foundQ, g_moved, g_movedSizes, g_synchronizing, g_input, g_inputLong, g_stack, g_stackParents, g_top, g_at, g_steps, g_traced, g_traces, g_nodes, g_made, g_nodeSymbols, g_nodeParents, g_errors, g_errorAts, g_errorKinds, g_errorTops, g_weights, g_bests, g_bestLongs, g_partly, g_partlyLongs, g_repaired, g_repairedLong])), (h_sizes, .inl (tc.1, 24, .inl c_sizes)), (h_rights, .inl (tc.1, 120, .inl c_rights)), (h_firsts, .inl (tc.1, 8, .inl c_firsts))] 69 [(3, .int v14)] []) (rc5 : Int32 → Int32 → Option (Int32)) (hrc5 : ∀ (v3 : Int32) (v4 : Int32), jo X 6 (0, 0) (jQI0 X [(h_, .inr (12, [g_rules, g_lefts, .ref h_sizes, .ref h_rights, g_edits, g_pastRules, g_pastLefts, g_pastSizes, g_pastRights, g_levels, g_codes, g_details, g_asked, g_isWorked, .int c_empties, .ref h_firsts, g_follows, g_isKept, g_keptEmpties, g_keptFirsts, g_keptFollows, g_strings, g_longs, g_trial, g_trialLong, g_foundName, g_foundToken, g_foundP, g_foundQ, g_moved, g_movedSizes, g_synchronizing, g_input, g_inputLong, g_stack, g_stackParents, g_top, g_at, g_steps, g_traced, g_traces, g_nodes, g_made, g_nodeSymbols, g_nodeParents, g_errors, g_errorAts, g_errorKinds, g_errorTops, g_weights, g_bests, g_bestLongs, g_partly, g_partlyLongs, g_repaired, g_repairedLong])), (h_sizes, .inl (tc.1, 24, .inl c_sizes)), (h_rights, .inl (tc.1, 120, .inl c_rights)), (h_firsts, .inl (tc.1, 8, .inl c_firsts))]) (rc5 v3 v4) [(h_, .inr (12, [g_rules, g_lefts, .ref h_sizes, .ref h_rights, g_edits, g_pastRules, g_pastLefts, g_pastSizes, g_pastRights, g_levels, g_codes, g_details, g_asked, g_isWorked, .int c_empties, .ref h_firsts, g_follows, g_isKept, g_keptEmpties, g_keptFirsts, g_keptFollows, g_strings, g_longs, g_trial, g_trialLong, g_foundName, g_foundToken, g_foundP, g_foundQ, g_moved, g_movedSizes, g_synchronizing, g_input, g_inputLong, g_stack, g_stackParents, g_top, g_at, g_steps, g_traced, g_traces, g_nodes, g_made, g_nodeSymbols, g_nodeParents, g_errors, g_errorAts, g_errorKinds, g_errorTops, g_weights, g_bests, g_bestLongs, g_partly, g_partlyLongs, g_repaired, g_repairedLong])), (h_sizes, .inl (tc.1, 24, .inl c_sizes)), (h_rights, .inl (tc.1, 120, .inl c_rights)), (h_firsts, .inl (tc.1, 8, .inl c_firsts))] 5 [(0, .ref h_), (1, .int p1), (3, .int v3), (4, .int v4)] []) (v3 : Int32) (v4 : Int32) : jo X 6 (0, 0) (jQI0 X [(h_, .inr (12, [g_rules, g_lefts, .ref h_sizes, .ref h_rights, g_edits, g_pastRules, g_pastLefts, g_pastSizes, g_pastRights, g_levels, g_codes, g_details, g_asked, g_isWorked, .int c_empties, .ref h_firsts, g_follows, g_isKept, g_keptEmpties, g_keptFirsts, g_keptFollows, g_strings, g_longs, g_trial, g_trialLong, g_foundName, g_foundToken, g_foundP, g_foundQ, g_moved, g_movedSizes, g_synchronizing, g_input, g_inputLong, g_stack, g_stackParents, g_top, g_at, g_steps, g_traced, g_traces, g_nodes, g_made, g_nodeSymbols, g_nodeParents, g_errors, g_errorAts, g_errorKinds, g_errorTops, g_weights, g_bests, g_bestLongs, g_partly, g_partlyLongs, g_repaired, g_repairedLong])), (h_sizes, .inl (tc.1, 24, .inl c_sizes)), (h_rights, .inl (tc.1, 120, .inl c_rights)), (h_firsts, .inl (tc.1, 8, .inl c_firsts))]) (bX12_firstOf_5 p1 c_sizes c_rights c_empties c_firsts k2 rc5 v3 v4) [(h_, .inr (12, [g_rules, g_lefts, .ref h_sizes, .ref h_rights, g_edits, g_pastRules, g_pastLefts, g_pastSizes, g_pastRights, g_levels, g_codes, g_details, g_asked, g_isWorked, .int c_empties, .ref h_firsts, g_follows, g_isKept, g_keptEmpties, g_keptFirsts, g_keptFollows, g_strings, g_longs, g_trial, g_trialLong, g_foundName, g_foundToken, g_foundP, g_foundQ, g_moved, g_movedSizes, g_synchronizing, g_input, g_inputLong, g_stack, g_stackParents, g_top, g_at, g_steps, g_traced, g_traces, g_nodes, g_made, g_nodeSymbols, g_nodeParents, g_errors, g_errorAts, g_errorKinds, g_errorTops, g_weights, g_bests, g_bestLongs, g_partly, g_partlyLongs, g_repaired, g_repairedLong])), (h_sizes, .inl (tc.1, 24, .inl c_sizes)), (h_rights, .inl (tc.1, 120, .inl c_rights)), (h_firsts, .inl (tc.1, 8, .inl c_firsts))] 5 [(0, .ref h_), (1, .int p1), (3, .int v3), (4, .int v4)] [] := by
  unfold bX12_firstOf_5
  refine j_iload C d12_firstOf_5 3 rfl ?_
  refine j_aload C d12_firstOf_7 0 rfl ?_
  refine j_get C d12_firstOf_8 fl12_13 0 rfl rfl ?_
  refine j_iload C d12_firstOf_11 1 rfl ?_
  refine j_iald C d12_firstOf_12 1 rfl (fun x6 => ?_)
  refine j_icmp_ge C d12_firstOf_13 ?_ ?_
  · exact j_sub [2] rfl (hk2 _)
  · refine j_aload C d12_firstOf_16 0 rfl ?_
    refine j_iload C d12_firstOf_17 1 rfl ?_
    refine j_iload C d12_firstOf_18 3 rfl ?_
    refine j_callVI0 (As := [.int p1, .int v4]) C d12_firstOf_20 mv12_156 (kX12_symbol _ _ tc h_ h_rights g_rules g_lefts (.ref h_sizes) g_edits g_pastRules g_pastLefts g_pastSizes g_pastRights g_levels g_codes g_details g_asked g_isWorked (.int c_empties) (.ref h_firsts) g_follows g_isKept g_keptEmpties g_keptFirsts g_keptFollows g_strings g_longs g_trial g_trialLong g_foundName g_foundToken g_foundP g_foundQ g_moved g_movedSizes g_synchronizing g_input g_inputLong g_stack g_stackParents g_top g_at g_steps g_traced g_traces g_nodes g_made g_nodeSymbols g_nodeParents g_errors g_errorAts g_errorKinds g_errorTops g_weights g_bests g_bestLongs g_partly g_partlyLongs g_repaired g_repairedLong c_rights p1 v4) ⟨rfl, rfl, Nat.le_of_ble_eq_true rfl, Nat.le_of_ble_eq_true rfl⟩ rfl 0 rfl [0, 2] rfl rfl rfl (Nat.le_of_ble_eq_true rfl) (fun x7 => ?_)
    refine j_istore C d12_firstOf_23 (by decide) (lv' := [(5, .int x7), (0, .ref h_), (1, .int p1), (3, .int v3), (4, .int v4)]) rfl ?_
    refine j_iload C d12_firstOf_25 3 rfl ?_
    refine j_iload C d12_firstOf_26 0 rfl ?_
    refine j_const C d12_firstOf_28 ?_
    refine j_join 50 (fun v8 => [(h_, .inr (12, [g_rules, g_lefts, .ref h_sizes, .ref h_rights, g_edits, g_pastRules, g_pastLefts, g_pastSizes, g_pastRights, g_levels, g_codes, g_details, g_asked, g_isWorked, .int c_empties, .ref h_firsts, g_follows, g_isKept, g_keptEmpties, g_keptFirsts, g_keptFollows, g_strings, g_longs, g_trial, g_trialLong, g_foundName, g_foundToken, g_foundP, g_foundQ, g_moved, g_movedSizes, g_synchronizing, g_input, g_inputLong, g_stack, g_stackParents, g_top, g_at, g_steps, g_traced, g_traces, g_nodes, g_made, g_nodeSymbols, g_nodeParents, g_errors, g_errorAts, g_errorKinds, g_errorTops, g_weights, g_bests, g_bestLongs, g_partly, g_partlyLongs, g_repaired, g_repairedLong])), (h_sizes, .inl (tc.1, 24, .inl c_sizes)), (h_rights, .inl (tc.1, 120, .inl c_rights)), (h_firsts, .inl (tc.1, 8, .inl c_firsts))]) (fun v8 => [(0, .ref h_), (1, .int p1), (4, .int v4), (5, .int x7)]) (fun v8 => [.int v8, .int v3]) (fun v8 => ?_) (fun k12 hk12 => ?_)
    · refine j_ior C d12_firstOf_50 ?_
      refine j_leti (fun x9 => ?_)
      refine j_istore C d12_firstOf_51 (by decide) (lv' := [(3, .int x9), (0, .ref h_), (1, .int p1), (4, .int v4), (5, .int x7)]) rfl ?_
      refine j_aload C d12_firstOf_52 1 rfl ?_
      refine j_iload C d12_firstOf_53 4 rfl ?_
      refine j_callVI0 (As := [.int x7]) C d12_firstOf_55 mv12_192 (kX12_isEmpty _ _ tc h_ g_rules g_lefts (.ref h_sizes) (.ref h_rights) g_edits g_pastRules g_pastLefts g_pastSizes g_pastRights g_levels g_codes g_details g_asked g_isWorked (.ref h_firsts) g_follows g_isKept g_keptEmpties g_keptFirsts g_keptFollows g_strings g_longs g_trial g_trialLong g_foundName g_foundToken g_foundP g_foundQ g_moved g_movedSizes g_synchronizing g_input g_inputLong g_stack g_stackParents g_top g_at g_steps g_traced g_traces g_nodes g_made g_nodeSymbols g_nodeParents g_errors g_errorAts g_errorKinds g_errorTops g_weights g_bests g_bestLongs g_partly g_partlyLongs g_repaired g_repairedLong c_empties x7) ⟨rfl, rfl, Nat.le_of_ble_eq_true rfl, Nat.le_of_ble_eq_true rfl⟩ rfl 0 rfl [0] rfl rfl rfl (Nat.le_of_ble_eq_true rfl) (fun x10 => ?_)
      refine j_if_ne C d12_firstOf_58 ?_ ?_
      · refine j_iincN C (fun x11 => [(4, .int x11), (3, .int x9), (0, .ref h_), (1, .int p1), (5, .int x7)]) d12_firstOf_63 3 rfl (by decide +kernel) (by decide) (fun _ => rfl) (fun x11 => ?_)
        refine j_goto C d12_firstOf_66 ?_
        exact j_sub [2, 3, 1, 0] rfl (hrc5 _ _)
      · refine j_iload C d12_firstOf_61 0 rfl ?_
        exact j_iret0 C d12_firstOf_62
    · refine j_icmp_ge C d12_firstOf_30 ?_ ?_
      · refine j_aload C d12_firstOf_40 1 rfl ?_
        refine j_get C d12_firstOf_41 fl12_40 0 rfl rfl ?_
        refine j_iload C d12_firstOf_44 0 rfl ?_
        refine j_const C d12_firstOf_46 ?_
        refine j_isub C d12_firstOf_48 ?_
        refine j_iald C d12_firstOf_49 3 rfl (fun x13 => ?_)
        exact j_sub [1, 2, 4, 0] rfl (hk12 _)
      · refine j_const C d12_firstOf_33 ?_
        refine j_iload C d12_firstOf_34 0 rfl ?_
        refine j_ishl C d12_firstOf_36 ?_
        refine j_goto C d12_firstOf_37 ?_
        exact j_sub [1, 2, 4, 0] rfl (hk12 _)

set_option maxHeartbeats 4000000 in
set_option maxRecDepth 100000 in
theorem kX12_firstOf (l : Launch) (D : va_G) (tc : jTC) (N : Nat) (h_ h_sizes h_rights h_firsts : Nat) (g_rules g_lefts g_edits g_pastRules g_pastLefts g_pastSizes g_pastRights g_levels g_codes g_details g_asked g_isWorked g_follows g_isKept g_keptEmpties g_keptFirsts g_keptFollows g_strings g_longs g_trial g_trialLong g_foundName g_foundToken g_foundP g_foundQ g_moved g_movedSizes g_synchronizing g_input g_inputLong g_stack g_stackParents g_top g_at g_steps g_traced g_traces g_nodes g_made g_nodeSymbols g_nodeParents g_errors g_errorAts g_errorKinds g_errorTops g_weights g_bests g_bestLongs g_partly g_partlyLongs g_repaired g_repairedLong : Value) (c_sizes : (Nat → Int32)) (c_rights : (Nat → Int32)) (c_empties : Int32) (c_firsts : (Nat → Int32)) (p1 : Int32) (p2 : Int32) : ctI0 l D tc yX12_firstOf (Cond.code yX12_firstOf cX12_firstOf 6 (some .int) :: jtb) ({ frames := 1, cells := 0, slots := 0, locals := 22 } : Room) [.ref h_, .int p1, .int p2] [(h_, .inr (12, [g_rules, g_lefts, .ref h_sizes, .ref h_rights, g_edits, g_pastRules, g_pastLefts, g_pastSizes, g_pastRights, g_levels, g_codes, g_details, g_asked, g_isWorked, .int c_empties, .ref h_firsts, g_follows, g_isKept, g_keptEmpties, g_keptFirsts, g_keptFollows, g_strings, g_longs, g_trial, g_trialLong, g_foundName, g_foundToken, g_foundP, g_foundQ, g_moved, g_movedSizes, g_synchronizing, g_input, g_inputLong, g_stack, g_stackParents, g_top, g_at, g_steps, g_traced, g_traces, g_nodes, g_made, g_nodeSymbols, g_nodeParents, g_errors, g_errorAts, g_errorKinds, g_errorTops, g_weights, g_bests, g_bestLongs, g_partly, g_partlyLongs, g_repaired, g_repairedLong])), (h_sizes, .inl (tc.1, 24, .inl c_sizes)), (h_rights, .inl (tc.1, 120, .inl c_rights)), (h_firsts, .inl (tc.1, 8, .inl c_firsts))] (fX12_firstOf N c_sizes c_rights c_empties c_firsts p1 p2) := by
  refine ctI0_of (lv0 := [(0, .ref h_), (1, .int p1), (2, .int p2)]) (by decide +kernel) (Nat.le_of_ble_eq_true rfl) rfl (fun X C => ?_)
  unfold fX12_firstOf
  refine j_const C d12_firstOf_0 ?_
  refine j_istore C d12_firstOf_1 (by decide) (lv' := [(3, .int 0), (0, .ref h_), (1, .int p1), (2, .int p2)]) rfl ?_
  refine j_iload C d12_firstOf_2 3 rfl ?_
  refine j_istore C d12_firstOf_3 (by decide) (lv' := [(4, .int p2), (3, .int 0), (0, .ref h_), (1, .int p1), (2, .int p2)]) rfl ?_
  refine j_join 69 (fun v1 => [(h_, .inr (12, [g_rules, g_lefts, .ref h_sizes, .ref h_rights, g_edits, g_pastRules, g_pastLefts, g_pastSizes, g_pastRights, g_levels, g_codes, g_details, g_asked, g_isWorked, .int c_empties, .ref h_firsts, g_follows, g_isKept, g_keptEmpties, g_keptFirsts, g_keptFollows, g_strings, g_longs, g_trial, g_trialLong, g_foundName, g_foundToken, g_foundP, g_foundQ, g_moved, g_movedSizes, g_synchronizing, g_input, g_inputLong, g_stack, g_stackParents, g_top, g_at, g_steps, g_traced, g_traces, g_nodes, g_made, g_nodeSymbols, g_nodeParents, g_errors, g_errorAts, g_errorKinds, g_errorTops, g_weights, g_bests, g_bestLongs, g_partly, g_partlyLongs, g_repaired, g_repairedLong])), (h_sizes, .inl (tc.1, 24, .inl c_sizes)), (h_rights, .inl (tc.1, 120, .inl c_rights)), (h_firsts, .inl (tc.1, 8, .inl c_firsts))]) (fun v1 => [(3, .int v1)]) (fun v1 => []) (fun v1 => ?_) (fun k2 hk2 => ?_)
  · refine j_iload C d12_firstOf_69 0 rfl ?_
    exact j_iret0 C d12_firstOf_70
  · exact j_sub [2, 3, 1, 0] rfl (j_loop2 (fun v3 v4 => [(h_, .inr (12, [g_rules, g_lefts, .ref h_sizes, .ref h_rights, g_edits, g_pastRules, g_pastLefts, g_pastSizes, g_pastRights, g_levels, g_codes, g_details, g_asked, g_isWorked, .int c_empties, .ref h_firsts, g_follows, g_isKept, g_keptEmpties, g_keptFirsts, g_keptFollows, g_strings, g_longs, g_trial, g_trialLong, g_foundName, g_foundToken, g_foundP, g_foundQ, g_moved, g_movedSizes, g_synchronizing, g_input, g_inputLong, g_stack, g_stackParents, g_top, g_at, g_steps, g_traced, g_traces, g_nodes, g_made, g_nodeSymbols, g_nodeParents, g_errors, g_errorAts, g_errorKinds, g_errorTops, g_weights, g_bests, g_bestLongs, g_partly, g_partlyLongs, g_repaired, g_repairedLong])), (h_sizes, .inl (tc.1, 24, .inl c_sizes)), (h_rights, .inl (tc.1, 120, .inl c_rights)), (h_firsts, .inl (tc.1, 8, .inl c_firsts))]) (fun v3 v4 => [(0, .ref h_), (1, .int p1), (3, .int v3), (4, .int v4)]) (fun rc5 hrc5 v3 v4 => wX12_firstOf_5 C h_ h_sizes h_rights h_firsts g_rules g_lefts g_edits g_pastRules g_pastLefts g_pastSizes g_pastRights g_levels g_codes g_details g_asked g_isWorked g_follows g_isKept g_keptEmpties g_keptFirsts g_keptFollows g_strings g_longs g_trial g_trialLong g_foundName g_foundToken g_foundP g_foundQ g_moved g_movedSizes g_synchronizing g_input g_inputLong g_stack g_stackParents g_top g_at g_steps g_traced g_traces g_nodes g_made g_nodeSymbols g_nodeParents g_errors g_errorAts g_errorKinds g_errorTops g_weights g_bests g_bestLongs g_partly g_partlyLongs g_repaired g_repairedLong p1 c_sizes c_rights c_empties c_firsts k2 hk2 rc5 hrc5 v3 v4) N _ _)

theorem d12_grows_0 : jdk cX12_grows 0 0 1 := Or.inl ⟨0, by decide +kernel⟩
theorem d12_grows_1 : jds cX12_grows 1 1 2 := Or.inl ⟨1, by decide +kernel⟩
theorem d12_grows_2 : jdk cX12_grows 2 0 3 := Or.inl ⟨0, by decide +kernel⟩
theorem d12_grows_3 : jds cX12_grows 3 2 4 := Or.inl ⟨2, by decide +kernel⟩
theorem d12_grows_4 : jdi cX12_grows 4 2 5 := Or.inl ⟨2, by decide +kernel⟩
theorem d12_grows_5 : jda cX12_grows 5 0 6 := Or.inl ⟨0, by decide +kernel⟩
theorem d12_grows_6 : jd cX12_grows 6 (.getfield 123) 3 9 := by decide +kernel
theorem d12_grows_9 : jdb cX12_grows 9 (.if_icmp .ge 207) 207 216 12 := by decide +kernel
theorem d12_grows_12 : jda cX12_grows 12 0 13 := Or.inl ⟨0, by decide +kernel⟩
theorem d12_grows_13 : jd cX12_grows 13 (.getfield 9) 3 16 := by decide +kernel
theorem d12_grows_16 : jdi cX12_grows 16 2 17 := Or.inl ⟨2, by decide +kernel⟩
theorem d12_grows_17 : jd cX12_grows 17 (.iaload) 1 18 := by decide +kernel
theorem d12_grows_18 : jds cX12_grows 18 3 19 := Or.inl ⟨3, by decide +kernel⟩
theorem d12_grows_19 : jda cX12_grows 19 0 20 := Or.inl ⟨0, by decide +kernel⟩
theorem d12_grows_20 : jd cX12_grows 20 (.getfield 186) 3 23 := by decide +kernel
theorem d12_grows_23 : jdi cX12_grows 23 3 24 := Or.inl ⟨3, by decide +kernel⟩
theorem d12_grows_24 : jd cX12_grows 24 (.ishr) 1 25 := by decide +kernel
theorem d12_grows_25 : jdk cX12_grows 25 1 26 := Or.inl ⟨1, by decide +kernel⟩
theorem d12_grows_26 : jd cX12_grows 26 (.iand) 1 27 := by decide +kernel
theorem d12_grows_27 : jdb cX12_grows 27 (.ifCond .ne 26) 26 53 30 := by decide +kernel
theorem d12_grows_30 : jda cX12_grows 30 0 31 := Or.inl ⟨0, by decide +kernel⟩
theorem d12_grows_31 : jdi cX12_grows 31 2 32 := Or.inl ⟨2, by decide +kernel⟩
theorem d12_grows_32 : jdk cX12_grows 32 0 33 := Or.inl ⟨0, by decide +kernel⟩
theorem d12_grows_33 : jd cX12_grows 33 (.invokevirtual 195) 3 36 := by decide +kernel
theorem d12_grows_36 : jdb cX12_grows 36 (.ifCond .eq 17) 17 53 39 := by decide +kernel
theorem d12_grows_39 : jda cX12_grows 39 0 40 := Or.inl ⟨0, by decide +kernel⟩
theorem d12_grows_40 : jd cX12_grows 40 (.dup) 1 41 := by decide +kernel
theorem d12_grows_41 : jd cX12_grows 41 (.getfield 186) 3 44 := by decide +kernel
theorem d12_grows_44 : jdk cX12_grows 44 1 45 := Or.inl ⟨1, by decide +kernel⟩
theorem d12_grows_45 : jdi cX12_grows 45 3 46 := Or.inl ⟨3, by decide +kernel⟩
theorem d12_grows_46 : jd cX12_grows 46 (.ishl) 1 47 := by decide +kernel
theorem d12_grows_47 : jd cX12_grows 47 (.ior) 1 48 := by decide +kernel
theorem d12_grows_48 : jd cX12_grows 48 (.putfield 186) 3 51 := by decide +kernel
theorem d12_grows_51 : jdk cX12_grows 51 1 52 := Or.inl ⟨1, by decide +kernel⟩
theorem d12_grows_52 : jds cX12_grows 52 1 53 := Or.inl ⟨1, by decide +kernel⟩
theorem d12_grows_53 : jda cX12_grows 53 0 54 := Or.inl ⟨0, by decide +kernel⟩
theorem d12_grows_54 : jd cX12_grows 54 (.getfield 40) 3 57 := by decide +kernel
theorem d12_grows_57 : jdi cX12_grows 57 3 58 := Or.inl ⟨3, by decide +kernel⟩
theorem d12_grows_58 : jd cX12_grows 58 (.iaload) 1 59 := by decide +kernel
theorem d12_grows_59 : jda cX12_grows 59 0 60 := Or.inl ⟨0, by decide +kernel⟩
theorem d12_grows_60 : jdi cX12_grows 60 2 61 := Or.inl ⟨2, by decide +kernel⟩
theorem d12_grows_61 : jdk cX12_grows 61 0 62 := Or.inl ⟨0, by decide +kernel⟩
theorem d12_grows_62 : jd cX12_grows 62 (.invokevirtual 199) 3 65 := by decide +kernel
theorem d12_grows_65 : jd cX12_grows 65 (.ior) 1 66 := by decide +kernel
theorem d12_grows_66 : jds cX12_grows 66 4 68 := Or.inr (by decide +kernel)
theorem d12_grows_68 : jdi cX12_grows 68 1 69 := Or.inl ⟨1, by decide +kernel⟩
theorem d12_grows_69 : jdb cX12_grows 69 (.ifCond .ne 14) 14 83 72 := by decide +kernel
theorem d12_grows_72 : jdi cX12_grows 72 4 74 := Or.inr (by decide +kernel)
theorem d12_grows_74 : jda cX12_grows 74 0 75 := Or.inl ⟨0, by decide +kernel⟩
theorem d12_grows_75 : jd cX12_grows 75 (.getfield 40) 3 78 := by decide +kernel
theorem d12_grows_78 : jdi cX12_grows 78 3 79 := Or.inl ⟨3, by decide +kernel⟩
theorem d12_grows_79 : jd cX12_grows 79 (.iaload) 1 80 := by decide +kernel
theorem d12_grows_80 : jdb cX12_grows 80 (.if_icmp .eq 7) 7 87 83 := by decide +kernel
theorem d12_grows_83 : jdk cX12_grows 83 1 84 := Or.inl ⟨1, by decide +kernel⟩
theorem d12_grows_84 : jdb cX12_grows 84 (.goto 4) 4 88 87 := by decide +kernel
theorem d12_grows_87 : jdk cX12_grows 87 0 88 := Or.inl ⟨0, by decide +kernel⟩
theorem d12_grows_88 : jds cX12_grows 88 1 89 := Or.inl ⟨1, by decide +kernel⟩
theorem d12_grows_89 : jda cX12_grows 89 0 90 := Or.inl ⟨0, by decide +kernel⟩
theorem d12_grows_90 : jd cX12_grows 90 (.getfield 40) 3 93 := by decide +kernel
theorem d12_grows_93 : jdi cX12_grows 93 3 94 := Or.inl ⟨3, by decide +kernel⟩
theorem d12_grows_94 : jdi cX12_grows 94 4 96 := Or.inr (by decide +kernel)
theorem d12_grows_96 : jd cX12_grows 96 (.iastore) 1 97 := by decide +kernel
theorem d12_grows_97 : jdk cX12_grows 97 0 98 := Or.inl ⟨0, by decide +kernel⟩
theorem d12_grows_98 : jds cX12_grows 98 5 100 := Or.inr (by decide +kernel)
theorem d12_grows_100 : jdi cX12_grows 100 5 102 := Or.inr (by decide +kernel)
theorem d12_grows_102 : jda cX12_grows 102 0 103 := Or.inl ⟨0, by decide +kernel⟩
theorem d12_grows_103 : jd cX12_grows 103 (.getfield 13) 3 106 := by decide +kernel
theorem d12_grows_106 : jdi cX12_grows 106 2 107 := Or.inl ⟨2, by decide +kernel⟩
theorem d12_grows_107 : jd cX12_grows 107 (.iaload) 1 108 := by decide +kernel
theorem d12_grows_108 : jdb cX12_grows 108 (.if_icmp .ge 102) 102 210 111 := by decide +kernel
theorem d12_grows_111 : jda cX12_grows 111 0 112 := Or.inl ⟨0, by decide +kernel⟩
theorem d12_grows_112 : jdi cX12_grows 112 2 113 := Or.inl ⟨2, by decide +kernel⟩
theorem d12_grows_113 : jdi cX12_grows 113 5 115 := Or.inr (by decide +kernel)
theorem d12_grows_115 : jd cX12_grows 115 (.invokevirtual 156) 3 118 := by decide +kernel
theorem d12_grows_118 : jdk cX12_grows 118 10 120 := Or.inr (Or.inl ⟨10, by decide +kernel⟩)
theorem d12_grows_120 : jd cX12_grows 120 (.isub) 1 121 := by decide +kernel
theorem d12_grows_121 : jds cX12_grows 121 6 123 := Or.inr (by decide +kernel)
theorem d12_grows_123 : jdi cX12_grows 123 6 125 := Or.inr (by decide +kernel)
theorem d12_grows_125 : jdb cX12_grows 125 (.ifCond .ge 6) 6 131 128 := by decide +kernel
theorem d12_grows_128 : jdb cX12_grows 128 (.goto 76) 76 204 131 := by decide +kernel
theorem d12_grows_131 : jda cX12_grows 131 0 132 := Or.inl ⟨0, by decide +kernel⟩
theorem d12_grows_132 : jd cX12_grows 132 (.getfield 43) 3 135 := by decide +kernel
theorem d12_grows_135 : jdi cX12_grows 135 6 137 := Or.inr (by decide +kernel)
theorem d12_grows_137 : jd cX12_grows 137 (.iaload) 1 138 := by decide +kernel
theorem d12_grows_138 : jda cX12_grows 138 0 139 := Or.inl ⟨0, by decide +kernel⟩
theorem d12_grows_139 : jdi cX12_grows 139 2 140 := Or.inl ⟨2, by decide +kernel⟩
theorem d12_grows_140 : jdi cX12_grows 140 5 142 := Or.inr (by decide +kernel)
theorem d12_grows_142 : jdk cX12_grows 142 1 143 := Or.inl ⟨1, by decide +kernel⟩
theorem d12_grows_143 : jd cX12_grows 143 (.iadd) 1 144 := by decide +kernel
theorem d12_grows_144 : jd cX12_grows 144 (.invokevirtual 199) 3 147 := by decide +kernel
theorem d12_grows_147 : jd cX12_grows 147 (.ior) 1 148 := by decide +kernel
theorem d12_grows_148 : jda cX12_grows 148 0 149 := Or.inl ⟨0, by decide +kernel⟩
theorem d12_grows_149 : jdi cX12_grows 149 2 150 := Or.inl ⟨2, by decide +kernel⟩
theorem d12_grows_150 : jdi cX12_grows 150 5 152 := Or.inr (by decide +kernel)
theorem d12_grows_152 : jdk cX12_grows 152 1 153 := Or.inl ⟨1, by decide +kernel⟩
theorem d12_grows_153 : jd cX12_grows 153 (.iadd) 1 154 := by decide +kernel
theorem d12_grows_154 : jd cX12_grows 154 (.invokevirtual 195) 3 157 := by decide +kernel
theorem d12_grows_157 : jdb cX12_grows 157 (.ifCond .eq 12) 12 169 160 := by decide +kernel
theorem d12_grows_160 : jda cX12_grows 160 0 161 := Or.inl ⟨0, by decide +kernel⟩
theorem d12_grows_161 : jd cX12_grows 161 (.getfield 43) 3 164 := by decide +kernel
theorem d12_grows_164 : jdi cX12_grows 164 3 165 := Or.inl ⟨3, by decide +kernel⟩
theorem d12_grows_165 : jd cX12_grows 165 (.iaload) 1 166 := by decide +kernel
theorem d12_grows_166 : jdb cX12_grows 166 (.goto 4) 4 170 169 := by decide +kernel
theorem d12_grows_169 : jdk cX12_grows 169 0 170 := Or.inl ⟨0, by decide +kernel⟩
theorem d12_grows_170 : jd cX12_grows 170 (.ior) 1 171 := by decide +kernel
theorem d12_grows_171 : jds cX12_grows 171 7 173 := Or.inr (by decide +kernel)
theorem d12_grows_173 : jdi cX12_grows 173 1 174 := Or.inl ⟨1, by decide +kernel⟩
theorem d12_grows_174 : jdb cX12_grows 174 (.ifCond .ne 15) 15 189 177 := by decide +kernel
theorem d12_grows_177 : jdi cX12_grows 177 7 179 := Or.inr (by decide +kernel)
theorem d12_grows_179 : jda cX12_grows 179 0 180 := Or.inl ⟨0, by decide +kernel⟩
theorem d12_grows_180 : jd cX12_grows 180 (.getfield 43) 3 183 := by decide +kernel
theorem d12_grows_183 : jdi cX12_grows 183 6 185 := Or.inr (by decide +kernel)
theorem d12_grows_185 : jd cX12_grows 185 (.iaload) 1 186 := by decide +kernel
theorem d12_grows_186 : jdb cX12_grows 186 (.if_icmp .eq 7) 7 193 189 := by decide +kernel
theorem d12_grows_189 : jdk cX12_grows 189 1 190 := Or.inl ⟨1, by decide +kernel⟩
theorem d12_grows_190 : jdb cX12_grows 190 (.goto 4) 4 194 193 := by decide +kernel
theorem d12_grows_193 : jdk cX12_grows 193 0 194 := Or.inl ⟨0, by decide +kernel⟩
theorem d12_grows_194 : jds cX12_grows 194 1 195 := Or.inl ⟨1, by decide +kernel⟩
theorem d12_grows_195 : jda cX12_grows 195 0 196 := Or.inl ⟨0, by decide +kernel⟩
theorem d12_grows_196 : jd cX12_grows 196 (.getfield 43) 3 199 := by decide +kernel
theorem d12_grows_199 : jdi cX12_grows 199 6 201 := Or.inr (by decide +kernel)
theorem d12_grows_201 : jdi cX12_grows 201 7 203 := Or.inr (by decide +kernel)
theorem d12_grows_203 : jd cX12_grows 203 (.iastore) 1 204 := by decide +kernel
theorem d12_grows_204 : jd cX12_grows 204 (.iinc 5 1) 3 207 := by decide +kernel
theorem d12_grows_207 : jdb cX12_grows 207 (.goto (-107)) (-107) 100 210 := by decide +kernel
theorem d12_grows_210 : jd cX12_grows 210 (.iinc 2 1) 3 213 := by decide +kernel
theorem d12_grows_213 : jdb cX12_grows 213 (.goto (-209)) (-209) 4 216 := by decide +kernel
theorem d12_grows_216 : jdi cX12_grows 216 1 217 := Or.inl ⟨1, by decide +kernel⟩
theorem d12_grows_217 : decode cX12_grows 217 = .ok (.ireturn, 1) := by decide +kernel
set_option maxHeartbeats 4000000 in
set_option maxRecDepth 100000 in
theorem wX12_grows_100 {X : jC} {tc : jTC} (C : jx X cX12_grows 8 RX12 (some .boolean) tc ({ frames := 2, cells := 0, slots := 0, locals := 47 } : Room)) (N : Nat) (h_ h_lefts h_sizes h_rights h_firsts h_follows : Nat) (g_edits g_pastRules g_pastLefts g_pastSizes g_pastRights g_levels g_codes g_details g_asked g_isWorked g_isKept g_keptEmpties g_keptFirsts g_keptFollows g_strings g_longs g_trial g_trialLong g_foundName g_foundToken g_foundP g_foundQ g_moved g_movedSizes g_synchronizing g_input g_inputLong g_stack g_stackParents g_top g_at g_steps g_traced g_traces g_nodes g_made g_nodeSymbols g_nodeParents g_errors g_errorAts g_errorKinds g_errorTops g_weights g_bests g_bestLongs g_partly g_partlyLongs g_repaired g_repairedLong : Value) (c_rules : Int32) (c_lefts : (Nat → Int32)) (c_sizes : (Nat → Int32)) (c_rights : (Nat → Int32)) (v7 : Int32) (x12 : Int32) (v14 : Int32) (f19 : (Nat → Int32)) (k23 : (Int32 → (Nat → Int32) → Option (Int32 × Int32 × (Nat → Int32) × (Nat → Int32)))) (hk23 : ∀ (v48 : Int32) (v49 : (Nat → Int32)), jo X 8 (0, 0) (jQI X (fun (u : Int32 × (Nat → Int32) × (Nat → Int32)) => [(h_, .inr (12, [.int c_rules, .ref h_lefts, .ref h_sizes, .ref h_rights, g_edits, g_pastRules, g_pastLefts, g_pastSizes, g_pastRights, g_levels, g_codes, g_details, g_asked, g_isWorked, .int u.1, .ref h_firsts, .ref h_follows, g_isKept, g_keptEmpties, g_keptFirsts, g_keptFollows, g_strings, g_longs, g_trial, g_trialLong, g_foundName, g_foundToken, g_foundP, g_foundQ, g_moved, g_movedSizes, g_synchronizing, g_input, g_inputLong, g_stack, g_stackParents, g_top, g_at, g_steps, g_traced, g_traces, g_nodes, g_made, g_nodeSymbols, g_nodeParents, g_errors, g_errorAts, g_errorKinds, g_errorTops, g_weights, g_bests, g_bestLongs, g_partly, g_partlyLongs, g_repaired, g_repairedLong])), (h_lefts, .inl (tc.1, 24, .inl c_lefts)), (h_sizes, .inl (tc.1, 24, .inl c_sizes)), (h_rights, .inl (tc.1, 120, .inl c_rights)), (h_firsts, .inl (tc.1, 8, .inl u.2.1)), (h_follows, .inl (tc.1, 8, .inl u.2.2))])) (k23 v48 v49) [(h_, .inr (12, [.int c_rules, .ref h_lefts, .ref h_sizes, .ref h_rights, g_edits, g_pastRules, g_pastLefts, g_pastSizes, g_pastRights, g_levels, g_codes, g_details, g_asked, g_isWorked, .int v14, .ref h_firsts, .ref h_follows, g_isKept, g_keptEmpties, g_keptFirsts, g_keptFollows, g_strings, g_longs, g_trial, g_trialLong, g_foundName, g_foundToken, g_foundP, g_foundQ, g_moved, g_movedSizes, g_synchronizing, g_input, g_inputLong, g_stack, g_stackParents, g_top, g_at, g_steps, g_traced, g_traces, g_nodes, g_made, g_nodeSymbols, g_nodeParents, g_errors, g_errorAts, g_errorKinds, g_errorTops, g_weights, g_bests, g_bestLongs, g_partly, g_partlyLongs, g_repaired, g_repairedLong])), (h_lefts, .inl (tc.1, 24, .inl c_lefts)), (h_sizes, .inl (tc.1, 24, .inl c_sizes)), (h_rights, .inl (tc.1, 120, .inl c_rights)), (h_firsts, .inl (tc.1, 8, .inl f19)), (h_follows, .inl (tc.1, 8, .inl v49))] 210 [(0, .ref h_), (1, .int v48), (2, .int v7)] []) (rc27 : Int32 → Int32 → (Nat → Int32) → Option (Int32 × Int32 × (Nat → Int32) × (Nat → Int32))) (hrc27 : ∀ (v24 : Int32) (v25 : Int32) (v26 : (Nat → Int32)), jo X 8 (0, 0) (jQI X (fun (u : Int32 × (Nat → Int32) × (Nat → Int32)) => [(h_, .inr (12, [.int c_rules, .ref h_lefts, .ref h_sizes, .ref h_rights, g_edits, g_pastRules, g_pastLefts, g_pastSizes, g_pastRights, g_levels, g_codes, g_details, g_asked, g_isWorked, .int u.1, .ref h_firsts, .ref h_follows, g_isKept, g_keptEmpties, g_keptFirsts, g_keptFollows, g_strings, g_longs, g_trial, g_trialLong, g_foundName, g_foundToken, g_foundP, g_foundQ, g_moved, g_movedSizes, g_synchronizing, g_input, g_inputLong, g_stack, g_stackParents, g_top, g_at, g_steps, g_traced, g_traces, g_nodes, g_made, g_nodeSymbols, g_nodeParents, g_errors, g_errorAts, g_errorKinds, g_errorTops, g_weights, g_bests, g_bestLongs, g_partly, g_partlyLongs, g_repaired, g_repairedLong])), (h_lefts, .inl (tc.1, 24, .inl c_lefts)), (h_sizes, .inl (tc.1, 24, .inl c_sizes)), (h_rights, .inl (tc.1, 120, .inl c_rights)), (h_firsts, .inl (tc.1, 8, .inl u.2.1)), (h_follows, .inl (tc.1, 8, .inl u.2.2))])) (rc27 v24 v25 v26) [(h_, .inr (12, [.int c_rules, .ref h_lefts, .ref h_sizes, .ref h_rights, g_edits, g_pastRules, g_pastLefts, g_pastSizes, g_pastRights, g_levels, g_codes, g_details, g_asked, g_isWorked, .int v14, .ref h_firsts, .ref h_follows, g_isKept, g_keptEmpties, g_keptFirsts, g_keptFollows, g_strings, g_longs, g_trial, g_trialLong, g_foundName, g_foundToken, g_foundP, g_foundQ, g_moved, g_movedSizes, g_synchronizing, g_input, g_inputLong, g_stack, g_stackParents, g_top, g_at, g_steps, g_traced, g_traces, g_nodes, g_made, g_nodeSymbols, g_nodeParents, g_errors, g_errorAts, g_errorKinds, g_errorTops, g_weights, g_bests, g_bestLongs, g_partly, g_partlyLongs, g_repaired, g_repairedLong])), (h_lefts, .inl (tc.1, 24, .inl c_lefts)), (h_sizes, .inl (tc.1, 24, .inl c_sizes)), (h_rights, .inl (tc.1, 120, .inl c_rights)), (h_firsts, .inl (tc.1, 8, .inl f19)), (h_follows, .inl (tc.1, 8, .inl v26))] 100 [(0, .ref h_), (1, .int v24), (2, .int v7), (3, .int x12), (5, .int v25)] []) (v24 : Int32) (v25 : Int32) (v26 : (Nat → Int32)) : jo X 8 (0, 0) (jQI X (fun (u : Int32 × (Nat → Int32) × (Nat → Int32)) => [(h_, .inr (12, [.int c_rules, .ref h_lefts, .ref h_sizes, .ref h_rights, g_edits, g_pastRules, g_pastLefts, g_pastSizes, g_pastRights, g_levels, g_codes, g_details, g_asked, g_isWorked, .int u.1, .ref h_firsts, .ref h_follows, g_isKept, g_keptEmpties, g_keptFirsts, g_keptFollows, g_strings, g_longs, g_trial, g_trialLong, g_foundName, g_foundToken, g_foundP, g_foundQ, g_moved, g_movedSizes, g_synchronizing, g_input, g_inputLong, g_stack, g_stackParents, g_top, g_at, g_steps, g_traced, g_traces, g_nodes, g_made, g_nodeSymbols, g_nodeParents, g_errors, g_errorAts, g_errorKinds, g_errorTops, g_weights, g_bests, g_bestLongs, g_partly, g_partlyLongs, g_repaired, g_repairedLong])), (h_lefts, .inl (tc.1, 24, .inl c_lefts)), (h_sizes, .inl (tc.1, 24, .inl c_sizes)), (h_rights, .inl (tc.1, 120, .inl c_rights)), (h_firsts, .inl (tc.1, 8, .inl u.2.1)), (h_follows, .inl (tc.1, 8, .inl u.2.2))])) (bX12_grows_100 N c_sizes c_rights v7 x12 v14 f19 k23 rc27 v24 v25 v26) [(h_, .inr (12, [.int c_rules, .ref h_lefts, .ref h_sizes, .ref h_rights, g_edits, g_pastRules, g_pastLefts, g_pastSizes, g_pastRights, g_levels, g_codes, g_details, g_asked, g_isWorked, .int v14, .ref h_firsts, .ref h_follows, g_isKept, g_keptEmpties, g_keptFirsts, g_keptFollows, g_strings, g_longs, g_trial, g_trialLong, g_foundName, g_foundToken, g_foundP, g_foundQ, g_moved, g_movedSizes, g_synchronizing, g_input, g_inputLong, g_stack, g_stackParents, g_top, g_at, g_steps, g_traced, g_traces, g_nodes, g_made, g_nodeSymbols, g_nodeParents, g_errors, g_errorAts, g_errorKinds, g_errorTops, g_weights, g_bests, g_bestLongs, g_partly, g_partlyLongs, g_repaired, g_repairedLong])), (h_lefts, .inl (tc.1, 24, .inl c_lefts)), (h_sizes, .inl (tc.1, 24, .inl c_sizes)), (h_rights, .inl (tc.1, 120, .inl c_rights)), (h_firsts, .inl (tc.1, 8, .inl f19)), (h_follows, .inl (tc.1, 8, .inl v26))] 100 [(0, .ref h_), (1, .int v24), (2, .int v7), (3, .int x12), (5, .int v25)] [] := by
  unfold bX12_grows_100
  refine j_iload C d12_grows_100 4 rfl ?_
  refine j_aload C d12_grows_102 0 rfl ?_
  refine j_get C d12_grows_103 fl12_13 0 rfl rfl ?_
  refine j_iload C d12_grows_106 2 rfl ?_
  refine j_iald C d12_grows_107 2 rfl (fun x28 => ?_)
  refine j_icmp_ge C d12_grows_108 ?_ ?_
  · exact j_sub [0, 1, 2] rfl (hk23 _ _)
  · refine j_aload C d12_grows_111 0 rfl ?_
    refine j_iload C d12_grows_112 2 rfl ?_
    refine j_iload C d12_grows_113 4 rfl ?_
    refine j_callVI0 (As := [.int v7, .int v25]) C d12_grows_115 mv12_156 (kX12_symbol _ _ tc h_ h_rights (.int c_rules) (.ref h_lefts) (.ref h_sizes) g_edits g_pastRules g_pastLefts g_pastSizes g_pastRights g_levels g_codes g_details g_asked g_isWorked (.int v14) (.ref h_firsts) (.ref h_follows) g_isKept g_keptEmpties g_keptFirsts g_keptFollows g_strings g_longs g_trial g_trialLong g_foundName g_foundToken g_foundP g_foundQ g_moved g_movedSizes g_synchronizing g_input g_inputLong g_stack g_stackParents g_top g_at g_steps g_traced g_traces g_nodes g_made g_nodeSymbols g_nodeParents g_errors g_errorAts g_errorKinds g_errorTops g_weights g_bests g_bestLongs g_partly g_partlyLongs g_repaired g_repairedLong c_rights v7 v25) ⟨rfl, rfl, Nat.le_of_ble_eq_true rfl, Nat.le_of_ble_eq_true rfl⟩ rfl 0 rfl [0, 3] rfl rfl rfl (Nat.le_of_ble_eq_true rfl) (fun x29 => ?_)
    refine j_const C d12_grows_118 ?_
    refine j_isub C d12_grows_120 ?_
    refine j_leti (fun x30 => ?_)
    refine j_istore C d12_grows_121 (by decide) (lv' := [(6, .int x30), (0, .ref h_), (1, .int v24), (2, .int v7), (3, .int x12), (5, .int v25)]) rfl ?_
    refine j_iload C d12_grows_123 0 rfl ?_
    refine j_join2 204 (fun v31 v32 => [(h_, .inr (12, [.int c_rules, .ref h_lefts, .ref h_sizes, .ref h_rights, g_edits, g_pastRules, g_pastLefts, g_pastSizes, g_pastRights, g_levels, g_codes, g_details, g_asked, g_isWorked, .int v14, .ref h_firsts, .ref h_follows, g_isKept, g_keptEmpties, g_keptFirsts, g_keptFollows, g_strings, g_longs, g_trial, g_trialLong, g_foundName, g_foundToken, g_foundP, g_foundQ, g_moved, g_movedSizes, g_synchronizing, g_input, g_inputLong, g_stack, g_stackParents, g_top, g_at, g_steps, g_traced, g_traces, g_nodes, g_made, g_nodeSymbols, g_nodeParents, g_errors, g_errorAts, g_errorKinds, g_errorTops, g_weights, g_bests, g_bestLongs, g_partly, g_partlyLongs, g_repaired, g_repairedLong])), (h_lefts, .inl (tc.1, 24, .inl c_lefts)), (h_sizes, .inl (tc.1, 24, .inl c_sizes)), (h_rights, .inl (tc.1, 120, .inl c_rights)), (h_firsts, .inl (tc.1, 8, .inl f19)), (h_follows, .inl (tc.1, 8, .inl v32))]) (fun v31 v32 => [(0, .ref h_), (1, .int v31), (2, .int v7), (3, .int x12), (5, .int v25)]) (fun v31 v32 => []) (fun v31 v32 => ?_) (fun k34 hk34 => ?_)
    · refine j_iincN C (fun x33 => [(5, .int x33), (0, .ref h_), (1, .int v31), (2, .int v7), (3, .int x12)]) d12_grows_204 4 rfl (by decide +kernel) (by decide) (fun _ => rfl) (fun x33 => ?_)
      refine j_goto C d12_grows_207 ?_
      exact j_sub [1, 2, 3, 4, 0] rfl (hrc27 _ _ _)
    · refine j_if_ge C d12_grows_125 ?_ ?_
      · refine j_aload C d12_grows_131 1 rfl ?_
        refine j_get C d12_grows_132 fl12_43 0 rfl rfl ?_
        refine j_iload C d12_grows_135 0 rfl ?_
        refine j_iald C d12_grows_137 5 rfl (fun x35 => ?_)
        refine j_aload C d12_grows_138 1 rfl ?_
        refine j_iload C d12_grows_139 3 rfl ?_
        refine j_iload C d12_grows_140 5 rfl ?_
        refine j_const C d12_grows_142 ?_
        refine j_iadd C d12_grows_143 ?_
        refine j_callVI0 (As := [.int v7, .int (v25 + (1 : Int32))]) C d12_grows_144 mv12_199 (kX12_firstOf _ _ tc N h_ h_sizes h_rights h_firsts (.int c_rules) (.ref h_lefts) g_edits g_pastRules g_pastLefts g_pastSizes g_pastRights g_levels g_codes g_details g_asked g_isWorked (.ref h_follows) g_isKept g_keptEmpties g_keptFirsts g_keptFollows g_strings g_longs g_trial g_trialLong g_foundName g_foundToken g_foundP g_foundQ g_moved g_movedSizes g_synchronizing g_input g_inputLong g_stack g_stackParents g_top g_at g_steps g_traced g_traces g_nodes g_made g_nodeSymbols g_nodeParents g_errors g_errorAts g_errorKinds g_errorTops g_weights g_bests g_bestLongs g_partly g_partlyLongs g_repaired g_repairedLong c_sizes c_rights v14 f19 v7 (v25 + (1 : Int32))) ⟨rfl, rfl, Nat.le_of_ble_eq_true rfl, Nat.le_of_ble_eq_true rfl⟩ rfl 0 rfl [0, 2, 3, 4] rfl rfl rfl (Nat.le_of_ble_eq_true rfl) (fun x36 => ?_)
        refine j_ior C d12_grows_147 ?_
        refine j_aload C d12_grows_148 1 rfl ?_
        refine j_iload C d12_grows_149 3 rfl ?_
        refine j_iload C d12_grows_150 5 rfl ?_
        refine j_const C d12_grows_152 ?_
        refine j_iadd C d12_grows_153 ?_
        refine j_callVI0 (As := [.int v7, .int (v25 + (1 : Int32))]) C d12_grows_154 mv12_195 (kX12_areEmpty _ _ tc N h_ h_sizes h_rights (.int c_rules) (.ref h_lefts) g_edits g_pastRules g_pastLefts g_pastSizes g_pastRights g_levels g_codes g_details g_asked g_isWorked (.ref h_firsts) (.ref h_follows) g_isKept g_keptEmpties g_keptFirsts g_keptFollows g_strings g_longs g_trial g_trialLong g_foundName g_foundToken g_foundP g_foundQ g_moved g_movedSizes g_synchronizing g_input g_inputLong g_stack g_stackParents g_top g_at g_steps g_traced g_traces g_nodes g_made g_nodeSymbols g_nodeParents g_errors g_errorAts g_errorKinds g_errorTops g_weights g_bests g_bestLongs g_partly g_partlyLongs g_repaired g_repairedLong c_sizes c_rights v14 v7 (v25 + (1 : Int32))) ⟨rfl, rfl, Nat.le_of_ble_eq_true rfl, Nat.le_of_ble_eq_true rfl⟩ rfl 0 rfl [0, 2, 3] rfl rfl rfl (Nat.le_of_ble_eq_true rfl) (fun x37 => ?_)
        refine j_join 170 (fun v38 => [(h_, .inr (12, [.int c_rules, .ref h_lefts, .ref h_sizes, .ref h_rights, g_edits, g_pastRules, g_pastLefts, g_pastSizes, g_pastRights, g_levels, g_codes, g_details, g_asked, g_isWorked, .int v14, .ref h_firsts, .ref h_follows, g_isKept, g_keptEmpties, g_keptFirsts, g_keptFollows, g_strings, g_longs, g_trial, g_trialLong, g_foundName, g_foundToken, g_foundP, g_foundQ, g_moved, g_movedSizes, g_synchronizing, g_input, g_inputLong, g_stack, g_stackParents, g_top, g_at, g_steps, g_traced, g_traces, g_nodes, g_made, g_nodeSymbols, g_nodeParents, g_errors, g_errorAts, g_errorKinds, g_errorTops, g_weights, g_bests, g_bestLongs, g_partly, g_partlyLongs, g_repaired, g_repairedLong])), (h_lefts, .inl (tc.1, 24, .inl c_lefts)), (h_sizes, .inl (tc.1, 24, .inl c_sizes)), (h_rights, .inl (tc.1, 120, .inl c_rights)), (h_firsts, .inl (tc.1, 8, .inl f19)), (h_follows, .inl (tc.1, 8, .inl v26))]) (fun v38 => [(0, .ref h_), (1, .int v24), (2, .int v7), (3, .int x12), (5, .int v25), (6, .int x30)]) (fun v38 => [.int v38, .int (x35 ||| x36)]) (fun v38 => ?_) (fun k46 hk46 => ?_)
        · refine j_ior C d12_grows_170 ?_
          refine j_leti (fun x39 => ?_)
          refine j_istore C d12_grows_171 (by decide) (lv' := [(7, .int x39), (0, .ref h_), (1, .int v24), (2, .int v7), (3, .int x12), (5, .int v25), (6, .int x30)]) rfl ?_
          refine j_iload C d12_grows_173 2 rfl ?_
          refine j_join 194 (fun v40 => [(h_, .inr (12, [.int c_rules, .ref h_lefts, .ref h_sizes, .ref h_rights, g_edits, g_pastRules, g_pastLefts, g_pastSizes, g_pastRights, g_levels, g_codes, g_details, g_asked, g_isWorked, .int v14, .ref h_firsts, .ref h_follows, g_isKept, g_keptEmpties, g_keptFirsts, g_keptFollows, g_strings, g_longs, g_trial, g_trialLong, g_foundName, g_foundToken, g_foundP, g_foundQ, g_moved, g_movedSizes, g_synchronizing, g_input, g_inputLong, g_stack, g_stackParents, g_top, g_at, g_steps, g_traced, g_traces, g_nodes, g_made, g_nodeSymbols, g_nodeParents, g_errors, g_errorAts, g_errorKinds, g_errorTops, g_weights, g_bests, g_bestLongs, g_partly, g_partlyLongs, g_repaired, g_repairedLong])), (h_lefts, .inl (tc.1, 24, .inl c_lefts)), (h_sizes, .inl (tc.1, 24, .inl c_sizes)), (h_rights, .inl (tc.1, 120, .inl c_rights)), (h_firsts, .inl (tc.1, 8, .inl f19)), (h_follows, .inl (tc.1, 8, .inl v26))]) (fun v40 => [(0, .ref h_), (2, .int v7), (3, .int x12), (5, .int v25), (6, .int x30), (7, .int x39)]) (fun v40 => [.int v40]) (fun v40 => ?_) (fun k42 hk42 => ?_)
          · refine j_istore C d12_grows_194 (by decide) (lv' := [(1, .int v40), (0, .ref h_), (2, .int v7), (3, .int x12), (5, .int v25), (6, .int x30), (7, .int x39)]) rfl ?_
            refine j_aload C d12_grows_195 1 rfl ?_
            refine j_get C d12_grows_196 fl12_43 0 rfl rfl ?_
            refine j_iload C d12_grows_199 5 rfl ?_
            refine j_iload C d12_grows_201 6 rfl ?_
            refine j_iast C (fun f41 => [(h_, .inr (12, [.int c_rules, .ref h_lefts, .ref h_sizes, .ref h_rights, g_edits, g_pastRules, g_pastLefts, g_pastSizes, g_pastRights, g_levels, g_codes, g_details, g_asked, g_isWorked, .int v14, .ref h_firsts, .ref h_follows, g_isKept, g_keptEmpties, g_keptFirsts, g_keptFollows, g_strings, g_longs, g_trial, g_trialLong, g_foundName, g_foundToken, g_foundP, g_foundQ, g_moved, g_movedSizes, g_synchronizing, g_input, g_inputLong, g_stack, g_stackParents, g_top, g_at, g_steps, g_traced, g_traces, g_nodes, g_made, g_nodeSymbols, g_nodeParents, g_errors, g_errorAts, g_errorKinds, g_errorTops, g_weights, g_bests, g_bestLongs, g_partly, g_partlyLongs, g_repaired, g_repairedLong])), (h_lefts, .inl (tc.1, 24, .inl c_lefts)), (h_sizes, .inl (tc.1, 24, .inl c_sizes)), (h_rights, .inl (tc.1, 120, .inl c_rights)), (h_firsts, .inl (tc.1, 8, .inl f19)), (h_follows, .inl (tc.1, 8, .inl f41))]) d12_grows_203 5 rfl (fun _ => rfl) (fun f41 => ?_)
            exact j_sub [1, 0, 2, 3, 4] rfl (hk34 _ _)
          · refine j_join 189 (fun v43 => [(h_, .inr (12, [.int c_rules, .ref h_lefts, .ref h_sizes, .ref h_rights, g_edits, g_pastRules, g_pastLefts, g_pastSizes, g_pastRights, g_levels, g_codes, g_details, g_asked, g_isWorked, .int v14, .ref h_firsts, .ref h_follows, g_isKept, g_keptEmpties, g_keptFirsts, g_keptFollows, g_strings, g_longs, g_trial, g_trialLong, g_foundName, g_foundToken, g_foundP, g_foundQ, g_moved, g_movedSizes, g_synchronizing, g_input, g_inputLong, g_stack, g_stackParents, g_top, g_at, g_steps, g_traced, g_traces, g_nodes, g_made, g_nodeSymbols, g_nodeParents, g_errors, g_errorAts, g_errorKinds, g_errorTops, g_weights, g_bests, g_bestLongs, g_partly, g_partlyLongs, g_repaired, g_repairedLong])), (h_lefts, .inl (tc.1, 24, .inl c_lefts)), (h_sizes, .inl (tc.1, 24, .inl c_sizes)), (h_rights, .inl (tc.1, 120, .inl c_rights)), (h_firsts, .inl (tc.1, 8, .inl f19)), (h_follows, .inl (tc.1, 8, .inl v26))]) (fun v43 => [(0, .ref h_), (2, .int v7), (3, .int x12), (5, .int v25), (6, .int x30), (7, .int x39)]) (fun v43 => []) (fun v43 => ?_) (fun k44 hk44 => ?_)
            · refine j_const C d12_grows_189 ?_
              refine j_goto C d12_grows_190 ?_
              exact hk42 _
            · refine j_if_ne C d12_grows_174 ?_ ?_
              · exact j_sub [1, 3, 4, 5, 6, 0] rfl (hk44 _)
              · refine j_iload C d12_grows_177 0 rfl ?_
                refine j_aload C d12_grows_179 1 rfl ?_
                refine j_get C d12_grows_180 fl12_43 0 rfl rfl ?_
                refine j_iload C d12_grows_183 6 rfl ?_
                refine j_iald C d12_grows_185 5 rfl (fun x45 => ?_)
                refine j_icmp_eq C d12_grows_186 ?_ ?_
                · refine j_const C d12_grows_193 ?_
                  exact j_sub [1, 3, 4, 5, 6, 0] rfl (hk42 _)
                · exact j_sub [1, 3, 4, 5, 6, 0] rfl (hk44 _)
        · refine j_if_eq C d12_grows_157 ?_ ?_
          · refine j_const C d12_grows_169 ?_
            exact j_sub [1, 2, 3, 4, 5, 0] rfl (hk46 _)
          · refine j_aload C d12_grows_160 1 rfl ?_
            refine j_get C d12_grows_161 fl12_43 0 rfl rfl ?_
            refine j_iload C d12_grows_164 4 rfl ?_
            refine j_iald C d12_grows_165 5 rfl (fun x47 => ?_)
            refine j_goto C d12_grows_166 ?_
            exact j_sub [1, 2, 3, 4, 5, 0] rfl (hk46 _)
      · refine j_goto C d12_grows_128 ?_
        exact j_sub [1, 2, 3, 4, 5] rfl (hk34 _ _)

set_option maxHeartbeats 4000000 in
set_option maxRecDepth 100000 in
theorem wX12_grows_4 {X : jC} {tc : jTC} (C : jx X cX12_grows 8 RX12 (some .boolean) tc ({ frames := 2, cells := 0, slots := 0, locals := 47 } : Room)) (N : Nat) (h_ h_lefts h_sizes h_rights h_firsts h_follows : Nat) (g_edits g_pastRules g_pastLefts g_pastSizes g_pastRights g_levels g_codes g_details g_asked g_isWorked g_isKept g_keptEmpties g_keptFirsts g_keptFollows g_strings g_longs g_trial g_trialLong g_foundName g_foundToken g_foundP g_foundQ g_moved g_movedSizes g_synchronizing g_input g_inputLong g_stack g_stackParents g_top g_at g_steps g_traced g_traces g_nodes g_made g_nodeSymbols g_nodeParents g_errors g_errorAts g_errorKinds g_errorTops g_weights g_bests g_bestLongs g_partly g_partlyLongs g_repaired g_repairedLong : Value) (c_rules : Int32) (c_lefts : (Nat → Int32)) (c_sizes : (Nat → Int32)) (c_rights : (Nat → Int32)) (k5 : (Int32 → Int32 → (Nat → Int32) → (Nat → Int32) → Option (Int32 × Int32 × (Nat → Int32) × (Nat → Int32)))) (hk5 : ∀ (v57 : Int32) (v58 : Int32) (v59 : (Nat → Int32)) (v60 : (Nat → Int32)), jo X 8 (0, 0) (jQI X (fun (u : Int32 × (Nat → Int32) × (Nat → Int32)) => [(h_, .inr (12, [.int c_rules, .ref h_lefts, .ref h_sizes, .ref h_rights, g_edits, g_pastRules, g_pastLefts, g_pastSizes, g_pastRights, g_levels, g_codes, g_details, g_asked, g_isWorked, .int u.1, .ref h_firsts, .ref h_follows, g_isKept, g_keptEmpties, g_keptFirsts, g_keptFollows, g_strings, g_longs, g_trial, g_trialLong, g_foundName, g_foundToken, g_foundP, g_foundQ, g_moved, g_movedSizes, g_synchronizing, g_input, g_inputLong, g_stack, g_stackParents, g_top, g_at, g_steps, g_traced, g_traces, g_nodes, g_made, g_nodeSymbols, g_nodeParents, g_errors, g_errorAts, g_errorKinds, g_errorTops, g_weights, g_bests, g_bestLongs, g_partly, g_partlyLongs, g_repaired, g_repairedLong])), (h_lefts, .inl (tc.1, 24, .inl c_lefts)), (h_sizes, .inl (tc.1, 24, .inl c_sizes)), (h_rights, .inl (tc.1, 120, .inl c_rights)), (h_firsts, .inl (tc.1, 8, .inl u.2.1)), (h_follows, .inl (tc.1, 8, .inl u.2.2))])) (k5 v57 v58 v59 v60) [(h_, .inr (12, [.int c_rules, .ref h_lefts, .ref h_sizes, .ref h_rights, g_edits, g_pastRules, g_pastLefts, g_pastSizes, g_pastRights, g_levels, g_codes, g_details, g_asked, g_isWorked, .int v58, .ref h_firsts, .ref h_follows, g_isKept, g_keptEmpties, g_keptFirsts, g_keptFollows, g_strings, g_longs, g_trial, g_trialLong, g_foundName, g_foundToken, g_foundP, g_foundQ, g_moved, g_movedSizes, g_synchronizing, g_input, g_inputLong, g_stack, g_stackParents, g_top, g_at, g_steps, g_traced, g_traces, g_nodes, g_made, g_nodeSymbols, g_nodeParents, g_errors, g_errorAts, g_errorKinds, g_errorTops, g_weights, g_bests, g_bestLongs, g_partly, g_partlyLongs, g_repaired, g_repairedLong])), (h_lefts, .inl (tc.1, 24, .inl c_lefts)), (h_sizes, .inl (tc.1, 24, .inl c_sizes)), (h_rights, .inl (tc.1, 120, .inl c_rights)), (h_firsts, .inl (tc.1, 8, .inl v59)), (h_follows, .inl (tc.1, 8, .inl v60))] 216 [(1, .int v57)] []) (rc11 : Int32 → Int32 → Int32 → (Nat → Int32) → (Nat → Int32) → Option (Int32 × Int32 × (Nat → Int32) × (Nat → Int32))) (hrc11 : ∀ (v6 : Int32) (v7 : Int32) (v8 : Int32) (v9 : (Nat → Int32)) (v10 : (Nat → Int32)), jo X 8 (0, 0) (jQI X (fun (u : Int32 × (Nat → Int32) × (Nat → Int32)) => [(h_, .inr (12, [.int c_rules, .ref h_lefts, .ref h_sizes, .ref h_rights, g_edits, g_pastRules, g_pastLefts, g_pastSizes, g_pastRights, g_levels, g_codes, g_details, g_asked, g_isWorked, .int u.1, .ref h_firsts, .ref h_follows, g_isKept, g_keptEmpties, g_keptFirsts, g_keptFollows, g_strings, g_longs, g_trial, g_trialLong, g_foundName, g_foundToken, g_foundP, g_foundQ, g_moved, g_movedSizes, g_synchronizing, g_input, g_inputLong, g_stack, g_stackParents, g_top, g_at, g_steps, g_traced, g_traces, g_nodes, g_made, g_nodeSymbols, g_nodeParents, g_errors, g_errorAts, g_errorKinds, g_errorTops, g_weights, g_bests, g_bestLongs, g_partly, g_partlyLongs, g_repaired, g_repairedLong])), (h_lefts, .inl (tc.1, 24, .inl c_lefts)), (h_sizes, .inl (tc.1, 24, .inl c_sizes)), (h_rights, .inl (tc.1, 120, .inl c_rights)), (h_firsts, .inl (tc.1, 8, .inl u.2.1)), (h_follows, .inl (tc.1, 8, .inl u.2.2))])) (rc11 v6 v7 v8 v9 v10) [(h_, .inr (12, [.int c_rules, .ref h_lefts, .ref h_sizes, .ref h_rights, g_edits, g_pastRules, g_pastLefts, g_pastSizes, g_pastRights, g_levels, g_codes, g_details, g_asked, g_isWorked, .int v8, .ref h_firsts, .ref h_follows, g_isKept, g_keptEmpties, g_keptFirsts, g_keptFollows, g_strings, g_longs, g_trial, g_trialLong, g_foundName, g_foundToken, g_foundP, g_foundQ, g_moved, g_movedSizes, g_synchronizing, g_input, g_inputLong, g_stack, g_stackParents, g_top, g_at, g_steps, g_traced, g_traces, g_nodes, g_made, g_nodeSymbols, g_nodeParents, g_errors, g_errorAts, g_errorKinds, g_errorTops, g_weights, g_bests, g_bestLongs, g_partly, g_partlyLongs, g_repaired, g_repairedLong])), (h_lefts, .inl (tc.1, 24, .inl c_lefts)), (h_sizes, .inl (tc.1, 24, .inl c_sizes)), (h_rights, .inl (tc.1, 120, .inl c_rights)), (h_firsts, .inl (tc.1, 8, .inl v9)), (h_follows, .inl (tc.1, 8, .inl v10))] 4 [(0, .ref h_), (1, .int v6), (2, .int v7)] []) (v6 : Int32) (v7 : Int32) (v8 : Int32) (v9 : (Nat → Int32)) (v10 : (Nat → Int32)) : jo X 8 (0, 0) (jQI X (fun (u : Int32 × (Nat → Int32) × (Nat → Int32)) => [(h_, .inr (12, [.int c_rules, .ref h_lefts, .ref h_sizes, .ref h_rights, g_edits, g_pastRules, g_pastLefts, g_pastSizes, g_pastRights, g_levels, g_codes, g_details, g_asked, g_isWorked, .int u.1, .ref h_firsts, .ref h_follows, g_isKept, g_keptEmpties, g_keptFirsts, g_keptFollows, g_strings, g_longs, g_trial, g_trialLong, g_foundName, g_foundToken, g_foundP, g_foundQ, g_moved, g_movedSizes, g_synchronizing, g_input, g_inputLong, g_stack, g_stackParents, g_top, g_at, g_steps, g_traced, g_traces, g_nodes, g_made, g_nodeSymbols, g_nodeParents, g_errors, g_errorAts, g_errorKinds, g_errorTops, g_weights, g_bests, g_bestLongs, g_partly, g_partlyLongs, g_repaired, g_repairedLong])), (h_lefts, .inl (tc.1, 24, .inl c_lefts)), (h_sizes, .inl (tc.1, 24, .inl c_sizes)), (h_rights, .inl (tc.1, 120, .inl c_rights)), (h_firsts, .inl (tc.1, 8, .inl u.2.1)), (h_follows, .inl (tc.1, 8, .inl u.2.2))])) (bX12_grows_4 N c_rules c_lefts c_sizes c_rights k5 rc11 v6 v7 v8 v9 v10) [(h_, .inr (12, [.int c_rules, .ref h_lefts, .ref h_sizes, .ref h_rights, g_edits, g_pastRules, g_pastLefts, g_pastSizes, g_pastRights, g_levels, g_codes, g_details, g_asked, g_isWorked, .int v8, .ref h_firsts, .ref h_follows, g_isKept, g_keptEmpties, g_keptFirsts, g_keptFollows, g_strings, g_longs, g_trial, g_trialLong, g_foundName, g_foundToken, g_foundP, g_foundQ, g_moved, g_movedSizes, g_synchronizing, g_input, g_inputLong, g_stack, g_stackParents, g_top, g_at, g_steps, g_traced, g_traces, g_nodes, g_made, g_nodeSymbols, g_nodeParents, g_errors, g_errorAts, g_errorKinds, g_errorTops, g_weights, g_bests, g_bestLongs, g_partly, g_partlyLongs, g_repaired, g_repairedLong])), (h_lefts, .inl (tc.1, 24, .inl c_lefts)), (h_sizes, .inl (tc.1, 24, .inl c_sizes)), (h_rights, .inl (tc.1, 120, .inl c_rights)), (h_firsts, .inl (tc.1, 8, .inl v9)), (h_follows, .inl (tc.1, 8, .inl v10))] 4 [(0, .ref h_), (1, .int v6), (2, .int v7)] [] := by
  unfold bX12_grows_4
  refine j_iload C d12_grows_4 2 rfl ?_
  refine j_aload C d12_grows_5 0 rfl ?_
  refine j_get C d12_grows_6 fl12_123 0 rfl rfl ?_
  refine j_icmp_ge C d12_grows_9 ?_ ?_
  · exact j_sub [1] rfl (hk5 _ _ _ _)
  · refine j_aload C d12_grows_12 0 rfl ?_
    refine j_get C d12_grows_13 fl12_9 0 rfl rfl ?_
    refine j_iload C d12_grows_16 2 rfl ?_
    refine j_iald C d12_grows_17 1 rfl (fun x12 => ?_)
    refine j_istore C d12_grows_18 (by decide) (lv' := [(3, .int x12), (0, .ref h_), (1, .int v6), (2, .int v7)]) rfl ?_
    refine j_aload C d12_grows_19 1 rfl ?_
    refine j_get C d12_grows_20 fl12_186 0 rfl rfl ?_
    refine j_iload C d12_grows_23 0 rfl ?_
    refine j_ishr C d12_grows_24 ?_
    refine j_const C d12_grows_25 ?_
    refine j_iand C d12_grows_26 ?_
    refine j_join2 53 (fun v13 v14 => [(h_, .inr (12, [.int c_rules, .ref h_lefts, .ref h_sizes, .ref h_rights, g_edits, g_pastRules, g_pastLefts, g_pastSizes, g_pastRights, g_levels, g_codes, g_details, g_asked, g_isWorked, .int v14, .ref h_firsts, .ref h_follows, g_isKept, g_keptEmpties, g_keptFirsts, g_keptFollows, g_strings, g_longs, g_trial, g_trialLong, g_foundName, g_foundToken, g_foundP, g_foundQ, g_moved, g_movedSizes, g_synchronizing, g_input, g_inputLong, g_stack, g_stackParents, g_top, g_at, g_steps, g_traced, g_traces, g_nodes, g_made, g_nodeSymbols, g_nodeParents, g_errors, g_errorAts, g_errorKinds, g_errorTops, g_weights, g_bests, g_bestLongs, g_partly, g_partlyLongs, g_repaired, g_repairedLong])), (h_lefts, .inl (tc.1, 24, .inl c_lefts)), (h_sizes, .inl (tc.1, 24, .inl c_sizes)), (h_rights, .inl (tc.1, 120, .inl c_rights)), (h_firsts, .inl (tc.1, 8, .inl v9)), (h_follows, .inl (tc.1, 8, .inl v10))]) (fun v13 v14 => [(0, .ref h_), (1, .int v13), (2, .int v7), (3, .int x12)]) (fun v13 v14 => []) (fun v13 v14 => ?_) (fun k54 hk54 => ?_)
    · refine j_aload C d12_grows_53 0 rfl ?_
      refine j_get C d12_grows_54 fl12_40 0 rfl rfl ?_
      refine j_iload C d12_grows_57 3 rfl ?_
      refine j_iald C d12_grows_58 4 rfl (fun x15 => ?_)
      refine j_aload C d12_grows_59 0 rfl ?_
      refine j_iload C d12_grows_60 2 rfl ?_
      refine j_const C d12_grows_61 ?_
      refine j_callVI0 (As := [.int v7, .int 0]) C d12_grows_62 mv12_199 (kX12_firstOf _ _ tc N h_ h_sizes h_rights h_firsts (.int c_rules) (.ref h_lefts) g_edits g_pastRules g_pastLefts g_pastSizes g_pastRights g_levels g_codes g_details g_asked g_isWorked (.ref h_follows) g_isKept g_keptEmpties g_keptFirsts g_keptFollows g_strings g_longs g_trial g_trialLong g_foundName g_foundToken g_foundP g_foundQ g_moved g_movedSizes g_synchronizing g_input g_inputLong g_stack g_stackParents g_top g_at g_steps g_traced g_traces g_nodes g_made g_nodeSymbols g_nodeParents g_errors g_errorAts g_errorKinds g_errorTops g_weights g_bests g_bestLongs g_partly g_partlyLongs g_repaired g_repairedLong c_sizes c_rights v14 v9 v7 0) ⟨rfl, rfl, Nat.le_of_ble_eq_true rfl, Nat.le_of_ble_eq_true rfl⟩ rfl 0 rfl [0, 2, 3, 4] rfl rfl rfl (Nat.le_of_ble_eq_true rfl) (fun x16 => ?_)
      refine j_ior C d12_grows_65 ?_
      refine j_leti (fun x17 => ?_)
      refine j_istore C d12_grows_66 (by decide) (lv' := [(4, .int x17), (0, .ref h_), (1, .int v13), (2, .int v7), (3, .int x12)]) rfl ?_
      refine j_iload C d12_grows_68 2 rfl ?_
      refine j_join 88 (fun v18 => [(h_, .inr (12, [.int c_rules, .ref h_lefts, .ref h_sizes, .ref h_rights, g_edits, g_pastRules, g_pastLefts, g_pastSizes, g_pastRights, g_levels, g_codes, g_details, g_asked, g_isWorked, .int v14, .ref h_firsts, .ref h_follows, g_isKept, g_keptEmpties, g_keptFirsts, g_keptFollows, g_strings, g_longs, g_trial, g_trialLong, g_foundName, g_foundToken, g_foundP, g_foundQ, g_moved, g_movedSizes, g_synchronizing, g_input, g_inputLong, g_stack, g_stackParents, g_top, g_at, g_steps, g_traced, g_traces, g_nodes, g_made, g_nodeSymbols, g_nodeParents, g_errors, g_errorAts, g_errorKinds, g_errorTops, g_weights, g_bests, g_bestLongs, g_partly, g_partlyLongs, g_repaired, g_repairedLong])), (h_lefts, .inl (tc.1, 24, .inl c_lefts)), (h_sizes, .inl (tc.1, 24, .inl c_sizes)), (h_rights, .inl (tc.1, 120, .inl c_rights)), (h_firsts, .inl (tc.1, 8, .inl v9)), (h_follows, .inl (tc.1, 8, .inl v10))]) (fun v18 => [(0, .ref h_), (2, .int v7), (3, .int x12), (4, .int x17)]) (fun v18 => [.int v18]) (fun v18 => ?_) (fun k50 hk50 => ?_)
      · refine j_istore C d12_grows_88 (by decide) (lv' := [(1, .int v18), (0, .ref h_), (2, .int v7), (3, .int x12), (4, .int x17)]) rfl ?_
        refine j_aload C d12_grows_89 1 rfl ?_
        refine j_get C d12_grows_90 fl12_40 0 rfl rfl ?_
        refine j_iload C d12_grows_93 3 rfl ?_
        refine j_iload C d12_grows_94 4 rfl ?_
        refine j_iast C (fun f19 => [(h_, .inr (12, [.int c_rules, .ref h_lefts, .ref h_sizes, .ref h_rights, g_edits, g_pastRules, g_pastLefts, g_pastSizes, g_pastRights, g_levels, g_codes, g_details, g_asked, g_isWorked, .int v14, .ref h_firsts, .ref h_follows, g_isKept, g_keptEmpties, g_keptFirsts, g_keptFollows, g_strings, g_longs, g_trial, g_trialLong, g_foundName, g_foundToken, g_foundP, g_foundQ, g_moved, g_movedSizes, g_synchronizing, g_input, g_inputLong, g_stack, g_stackParents, g_top, g_at, g_steps, g_traced, g_traces, g_nodes, g_made, g_nodeSymbols, g_nodeParents, g_errors, g_errorAts, g_errorKinds, g_errorTops, g_weights, g_bests, g_bestLongs, g_partly, g_partlyLongs, g_repaired, g_repairedLong])), (h_lefts, .inl (tc.1, 24, .inl c_lefts)), (h_sizes, .inl (tc.1, 24, .inl c_sizes)), (h_rights, .inl (tc.1, 120, .inl c_rights)), (h_firsts, .inl (tc.1, 8, .inl f19)), (h_follows, .inl (tc.1, 8, .inl v10))]) d12_grows_96 4 rfl (fun _ => rfl) (fun f19 => ?_)
        refine j_const C d12_grows_97 ?_
        refine j_istore C d12_grows_98 (by decide) (lv' := [(5, .int 0), (1, .int v18), (0, .ref h_), (2, .int v7), (3, .int x12), (4, .int x17)]) rfl ?_
        refine j_join2 210 (fun v20 v21 => [(h_, .inr (12, [.int c_rules, .ref h_lefts, .ref h_sizes, .ref h_rights, g_edits, g_pastRules, g_pastLefts, g_pastSizes, g_pastRights, g_levels, g_codes, g_details, g_asked, g_isWorked, .int v14, .ref h_firsts, .ref h_follows, g_isKept, g_keptEmpties, g_keptFirsts, g_keptFollows, g_strings, g_longs, g_trial, g_trialLong, g_foundName, g_foundToken, g_foundP, g_foundQ, g_moved, g_movedSizes, g_synchronizing, g_input, g_inputLong, g_stack, g_stackParents, g_top, g_at, g_steps, g_traced, g_traces, g_nodes, g_made, g_nodeSymbols, g_nodeParents, g_errors, g_errorAts, g_errorKinds, g_errorTops, g_weights, g_bests, g_bestLongs, g_partly, g_partlyLongs, g_repaired, g_repairedLong])), (h_lefts, .inl (tc.1, 24, .inl c_lefts)), (h_sizes, .inl (tc.1, 24, .inl c_sizes)), (h_rights, .inl (tc.1, 120, .inl c_rights)), (h_firsts, .inl (tc.1, 8, .inl f19)), (h_follows, .inl (tc.1, 8, .inl v21))]) (fun v20 v21 => [(0, .ref h_), (1, .int v20), (2, .int v7)]) (fun v20 v21 => []) (fun v20 v21 => ?_) (fun k23 hk23 => ?_)
        · refine j_iincN C (fun x22 => [(2, .int x22), (0, .ref h_), (1, .int v20)]) d12_grows_210 2 rfl (by decide +kernel) (by decide) (fun _ => rfl) (fun x22 => ?_)
          refine j_goto C d12_grows_213 ?_
          exact j_sub [1, 2, 0] rfl (hrc11 _ _ _ _ _)
        · exact j_sub [2, 1, 3, 4, 0] rfl (j_loop3 (fun v24 v25 v26 => [(h_, .inr (12, [.int c_rules, .ref h_lefts, .ref h_sizes, .ref h_rights, g_edits, g_pastRules, g_pastLefts, g_pastSizes, g_pastRights, g_levels, g_codes, g_details, g_asked, g_isWorked, .int v14, .ref h_firsts, .ref h_follows, g_isKept, g_keptEmpties, g_keptFirsts, g_keptFollows, g_strings, g_longs, g_trial, g_trialLong, g_foundName, g_foundToken, g_foundP, g_foundQ, g_moved, g_movedSizes, g_synchronizing, g_input, g_inputLong, g_stack, g_stackParents, g_top, g_at, g_steps, g_traced, g_traces, g_nodes, g_made, g_nodeSymbols, g_nodeParents, g_errors, g_errorAts, g_errorKinds, g_errorTops, g_weights, g_bests, g_bestLongs, g_partly, g_partlyLongs, g_repaired, g_repairedLong])), (h_lefts, .inl (tc.1, 24, .inl c_lefts)), (h_sizes, .inl (tc.1, 24, .inl c_sizes)), (h_rights, .inl (tc.1, 120, .inl c_rights)), (h_firsts, .inl (tc.1, 8, .inl f19)), (h_follows, .inl (tc.1, 8, .inl v26))]) (fun v24 v25 v26 => [(0, .ref h_), (1, .int v24), (2, .int v7), (3, .int x12), (5, .int v25)]) (fun rc27 hrc27 v24 v25 v26 => wX12_grows_100 C N h_ h_lefts h_sizes h_rights h_firsts h_follows g_edits g_pastRules g_pastLefts g_pastSizes g_pastRights g_levels g_codes g_details g_asked g_isWorked g_isKept g_keptEmpties g_keptFirsts g_keptFollows g_strings g_longs g_trial g_trialLong g_foundName g_foundToken g_foundP g_foundQ g_moved g_movedSizes g_synchronizing g_input g_inputLong g_stack g_stackParents g_top g_at g_steps g_traced g_traces g_nodes g_made g_nodeSymbols g_nodeParents g_errors g_errorAts g_errorKinds g_errorTops g_weights g_bests g_bestLongs g_partly g_partlyLongs g_repaired g_repairedLong c_rules c_lefts c_sizes c_rights v7 x12 v14 f19 k23 hk23 rc27 hrc27 v24 v25 v26) N _ _ _)
      · refine j_join 83 (fun v51 => [(h_, .inr (12, [.int c_rules, .ref h_lefts, .ref h_sizes, .ref h_rights, g_edits, g_pastRules, g_pastLefts, g_pastSizes, g_pastRights, g_levels, g_codes, g_details, g_asked, g_isWorked, .int v14, .ref h_firsts, .ref h_follows, g_isKept, g_keptEmpties, g_keptFirsts, g_keptFollows, g_strings, g_longs, g_trial, g_trialLong, g_foundName, g_foundToken, g_foundP, g_foundQ, g_moved, g_movedSizes, g_synchronizing, g_input, g_inputLong, g_stack, g_stackParents, g_top, g_at, g_steps, g_traced, g_traces, g_nodes, g_made, g_nodeSymbols, g_nodeParents, g_errors, g_errorAts, g_errorKinds, g_errorTops, g_weights, g_bests, g_bestLongs, g_partly, g_partlyLongs, g_repaired, g_repairedLong])), (h_lefts, .inl (tc.1, 24, .inl c_lefts)), (h_sizes, .inl (tc.1, 24, .inl c_sizes)), (h_rights, .inl (tc.1, 120, .inl c_rights)), (h_firsts, .inl (tc.1, 8, .inl v9)), (h_follows, .inl (tc.1, 8, .inl v10))]) (fun v51 => [(0, .ref h_), (2, .int v7), (3, .int x12), (4, .int x17)]) (fun v51 => []) (fun v51 => ?_) (fun k52 hk52 => ?_)
        · refine j_const C d12_grows_83 ?_
          refine j_goto C d12_grows_84 ?_
          exact hk50 _
        · refine j_if_ne C d12_grows_69 ?_ ?_
          · exact j_sub [1, 3, 4, 0] rfl (hk52 _)
          · refine j_iload C d12_grows_72 0 rfl ?_
            refine j_aload C d12_grows_74 1 rfl ?_
            refine j_get C d12_grows_75 fl12_40 0 rfl rfl ?_
            refine j_iload C d12_grows_78 4 rfl ?_
            refine j_iald C d12_grows_79 4 rfl (fun x53 => ?_)
            refine j_icmp_eq C d12_grows_80 ?_ ?_
            · refine j_const C d12_grows_87 ?_
              exact j_sub [1, 3, 4, 0] rfl (hk50 _)
            · exact j_sub [1, 3, 4, 0] rfl (hk52 _)
    · refine j_if_ne C d12_grows_27 ?_ ?_
      · exact j_sub [1, 2, 3, 0] rfl (hk54 _ _)
      · refine j_aload C d12_grows_30 1 rfl ?_
        refine j_iload C d12_grows_31 3 rfl ?_
        refine j_const C d12_grows_32 ?_
        refine j_callVI0 (As := [.int v7, .int 0]) C d12_grows_33 mv12_195 (kX12_areEmpty _ _ tc N h_ h_sizes h_rights (.int c_rules) (.ref h_lefts) g_edits g_pastRules g_pastLefts g_pastSizes g_pastRights g_levels g_codes g_details g_asked g_isWorked (.ref h_firsts) (.ref h_follows) g_isKept g_keptEmpties g_keptFirsts g_keptFollows g_strings g_longs g_trial g_trialLong g_foundName g_foundToken g_foundP g_foundQ g_moved g_movedSizes g_synchronizing g_input g_inputLong g_stack g_stackParents g_top g_at g_steps g_traced g_traces g_nodes g_made g_nodeSymbols g_nodeParents g_errors g_errorAts g_errorKinds g_errorTops g_weights g_bests g_bestLongs g_partly g_partlyLongs g_repaired g_repairedLong c_sizes c_rights v8 v7 0) ⟨rfl, rfl, Nat.le_of_ble_eq_true rfl, Nat.le_of_ble_eq_true rfl⟩ rfl 0 rfl [0, 2, 3] rfl rfl rfl (Nat.le_of_ble_eq_true rfl) (fun x55 => ?_)
        refine j_if_eq C d12_grows_36 ?_ ?_
        · exact j_sub [1, 2, 3, 0] rfl (hk54 _ _)
        · refine j_aload C d12_grows_39 1 rfl ?_
          refine j_dup C d12_grows_40 rfl ?_
          refine j_get C d12_grows_41 fl12_186 0 rfl rfl ?_
          refine j_const C d12_grows_44 ?_
          refine j_iload C d12_grows_45 0 rfl ?_
          refine j_ishl C d12_grows_46 ?_
          refine j_ior C d12_grows_47 ?_
          refine j_leti (fun x56 => ?_)
          refine j_putq C d12_grows_48 fq12_186 0 rfl rfl rfl (Nat.le_of_ble_eq_true rfl) (ws' := [(h_, .inr (12, [.int c_rules, .ref h_lefts, .ref h_sizes, .ref h_rights, g_edits, g_pastRules, g_pastLefts, g_pastSizes, g_pastRights, g_levels, g_codes, g_details, g_asked, g_isWorked, .int x56, .ref h_firsts, .ref h_follows, g_isKept, g_keptEmpties, g_keptFirsts, g_keptFollows, g_strings, g_longs, g_trial, g_trialLong, g_foundName, g_foundToken, g_foundP, g_foundQ, g_moved, g_movedSizes, g_synchronizing, g_input, g_inputLong, g_stack, g_stackParents, g_top, g_at, g_steps, g_traced, g_traces, g_nodes, g_made, g_nodeSymbols, g_nodeParents, g_errors, g_errorAts, g_errorKinds, g_errorTops, g_weights, g_bests, g_bestLongs, g_partly, g_partlyLongs, g_repaired, g_repairedLong])), (h_lefts, .inl (tc.1, 24, .inl c_lefts)), (h_sizes, .inl (tc.1, 24, .inl c_sizes)), (h_rights, .inl (tc.1, 120, .inl c_rights)), (h_firsts, .inl (tc.1, 8, .inl v9)), (h_follows, .inl (tc.1, 8, .inl v10))]) rfl ?_
          refine j_const C d12_grows_51 ?_
          refine j_istore C d12_grows_52 (by decide) (lv' := [(1, .int 1), (3, .int x12), (0, .ref h_), (2, .int v7)]) rfl ?_
          exact j_sub [2, 0, 3, 1] rfl (hk54 _ _)

set_option maxHeartbeats 4000000 in
set_option maxRecDepth 100000 in
theorem kX12_grows (l : Launch) (D : va_G) (tc : jTC) (N : Nat) (h_ h_lefts h_sizes h_rights h_firsts h_follows : Nat) (g_edits g_pastRules g_pastLefts g_pastSizes g_pastRights g_levels g_codes g_details g_asked g_isWorked g_isKept g_keptEmpties g_keptFirsts g_keptFollows g_strings g_longs g_trial g_trialLong g_foundName g_foundToken g_foundP g_foundQ g_moved g_movedSizes g_synchronizing g_input g_inputLong g_stack g_stackParents g_top g_at g_steps g_traced g_traces g_nodes g_made g_nodeSymbols g_nodeParents g_errors g_errorAts g_errorKinds g_errorTops g_weights g_bests g_bestLongs g_partly g_partlyLongs g_repaired g_repairedLong : Value) (c_rules : Int32) (c_lefts : (Nat → Int32)) (c_sizes : (Nat → Int32)) (c_rights : (Nat → Int32)) (c_empties : Int32) (c_firsts : (Nat → Int32)) (c_follows : (Nat → Int32)) : ctI l D tc yX12_grows (Cond.code yX12_grows cX12_grows 8 (some .boolean) :: jtb) ({ frames := 2, cells := 0, slots := 0, locals := 47 } : Room) [.ref h_] [(h_, .inr (12, [.int c_rules, .ref h_lefts, .ref h_sizes, .ref h_rights, g_edits, g_pastRules, g_pastLefts, g_pastSizes, g_pastRights, g_levels, g_codes, g_details, g_asked, g_isWorked, .int c_empties, .ref h_firsts, .ref h_follows, g_isKept, g_keptEmpties, g_keptFirsts, g_keptFollows, g_strings, g_longs, g_trial, g_trialLong, g_foundName, g_foundToken, g_foundP, g_foundQ, g_moved, g_movedSizes, g_synchronizing, g_input, g_inputLong, g_stack, g_stackParents, g_top, g_at, g_steps, g_traced, g_traces, g_nodes, g_made, g_nodeSymbols, g_nodeParents, g_errors, g_errorAts, g_errorKinds, g_errorTops, g_weights, g_bests, g_bestLongs, g_partly, g_partlyLongs, g_repaired, g_repairedLong])), (h_lefts, .inl (tc.1, 24, .inl c_lefts)), (h_sizes, .inl (tc.1, 24, .inl c_sizes)), (h_rights, .inl (tc.1, 120, .inl c_rights)), (h_firsts, .inl (tc.1, 8, .inl c_firsts)), (h_follows, .inl (tc.1, 8, .inl c_follows))] (fX12_grows N c_rules c_lefts c_sizes c_rights c_empties c_firsts c_follows) (fun (u : Int32 × (Nat → Int32) × (Nat → Int32)) => [(h_, .inr (12, [.int c_rules, .ref h_lefts, .ref h_sizes, .ref h_rights, g_edits, g_pastRules, g_pastLefts, g_pastSizes, g_pastRights, g_levels, g_codes, g_details, g_asked, g_isWorked, .int u.1, .ref h_firsts, .ref h_follows, g_isKept, g_keptEmpties, g_keptFirsts, g_keptFollows, g_strings, g_longs, g_trial, g_trialLong, g_foundName, g_foundToken, g_foundP, g_foundQ, g_moved, g_movedSizes, g_synchronizing, g_input, g_inputLong, g_stack, g_stackParents, g_top, g_at, g_steps, g_traced, g_traces, g_nodes, g_made, g_nodeSymbols, g_nodeParents, g_errors, g_errorAts, g_errorKinds, g_errorTops, g_weights, g_bests, g_bestLongs, g_partly, g_partlyLongs, g_repaired, g_repairedLong])), (h_lefts, .inl (tc.1, 24, .inl c_lefts)), (h_sizes, .inl (tc.1, 24, .inl c_sizes)), (h_rights, .inl (tc.1, 120, .inl c_rights)), (h_firsts, .inl (tc.1, 8, .inl u.2.1)), (h_follows, .inl (tc.1, 8, .inl u.2.2))]) := by
  refine ctI_of (lv0 := [(0, .ref h_)]) (by decide +kernel) (Nat.le_of_ble_eq_true rfl) rfl (fun X C => ?_)
  unfold fX12_grows
  refine j_const C d12_grows_0 ?_
  refine j_istore C d12_grows_1 (by decide) (lv' := [(1, .int 0), (0, .ref h_)]) rfl ?_
  refine j_const C d12_grows_2 ?_
  refine j_istore C d12_grows_3 (by decide) (lv' := [(2, .int 0), (1, .int 0), (0, .ref h_)]) rfl ?_
  refine j_join4 216 (fun v1 v2 v3 v4 => [(h_, .inr (12, [.int c_rules, .ref h_lefts, .ref h_sizes, .ref h_rights, g_edits, g_pastRules, g_pastLefts, g_pastSizes, g_pastRights, g_levels, g_codes, g_details, g_asked, g_isWorked, .int v2, .ref h_firsts, .ref h_follows, g_isKept, g_keptEmpties, g_keptFirsts, g_keptFollows, g_strings, g_longs, g_trial, g_trialLong, g_foundName, g_foundToken, g_foundP, g_foundQ, g_moved, g_movedSizes, g_synchronizing, g_input, g_inputLong, g_stack, g_stackParents, g_top, g_at, g_steps, g_traced, g_traces, g_nodes, g_made, g_nodeSymbols, g_nodeParents, g_errors, g_errorAts, g_errorKinds, g_errorTops, g_weights, g_bests, g_bestLongs, g_partly, g_partlyLongs, g_repaired, g_repairedLong])), (h_lefts, .inl (tc.1, 24, .inl c_lefts)), (h_sizes, .inl (tc.1, 24, .inl c_sizes)), (h_rights, .inl (tc.1, 120, .inl c_rights)), (h_firsts, .inl (tc.1, 8, .inl v3)), (h_follows, .inl (tc.1, 8, .inl v4))]) (fun v1 v2 v3 v4 => [(1, .int v1)]) (fun v1 v2 v3 v4 => []) (fun v1 v2 v3 v4 => ?_) (fun k5 hk5 => ?_)
  · refine j_iload C d12_grows_216 0 rfl ?_
    refine j_gz (fun hz => ?_)
    exact j_zret C hz d12_grows_217 rfl
  · exact j_sub [2, 1, 0] rfl (j_loop5 (fun v6 v7 v8 v9 v10 => [(h_, .inr (12, [.int c_rules, .ref h_lefts, .ref h_sizes, .ref h_rights, g_edits, g_pastRules, g_pastLefts, g_pastSizes, g_pastRights, g_levels, g_codes, g_details, g_asked, g_isWorked, .int v8, .ref h_firsts, .ref h_follows, g_isKept, g_keptEmpties, g_keptFirsts, g_keptFollows, g_strings, g_longs, g_trial, g_trialLong, g_foundName, g_foundToken, g_foundP, g_foundQ, g_moved, g_movedSizes, g_synchronizing, g_input, g_inputLong, g_stack, g_stackParents, g_top, g_at, g_steps, g_traced, g_traces, g_nodes, g_made, g_nodeSymbols, g_nodeParents, g_errors, g_errorAts, g_errorKinds, g_errorTops, g_weights, g_bests, g_bestLongs, g_partly, g_partlyLongs, g_repaired, g_repairedLong])), (h_lefts, .inl (tc.1, 24, .inl c_lefts)), (h_sizes, .inl (tc.1, 24, .inl c_sizes)), (h_rights, .inl (tc.1, 120, .inl c_rights)), (h_firsts, .inl (tc.1, 8, .inl v9)), (h_follows, .inl (tc.1, 8, .inl v10))]) (fun v6 v7 v8 v9 v10 => [(0, .ref h_), (1, .int v6), (2, .int v7)]) (fun rc11 hrc11 v6 v7 v8 v9 v10 => wX12_grows_4 C N h_ h_lefts h_sizes h_rights h_firsts h_follows g_edits g_pastRules g_pastLefts g_pastSizes g_pastRights g_levels g_codes g_details g_asked g_isWorked g_isKept g_keptEmpties g_keptFirsts g_keptFollows g_strings g_longs g_trial g_trialLong g_foundName g_foundToken g_foundP g_foundQ g_moved g_movedSizes g_synchronizing g_input g_inputLong g_stack g_stackParents g_top g_at g_steps g_traced g_traces g_nodes g_made g_nodeSymbols g_nodeParents g_errors g_errorAts g_errorKinds g_errorTops g_weights g_bests g_bestLongs g_partly g_partlyLongs g_repaired g_repairedLong c_rules c_lefts c_sizes c_rights k5 hk5 rc11 hrc11 v6 v7 v8 v9 v10) N _ _ _ _ _)

