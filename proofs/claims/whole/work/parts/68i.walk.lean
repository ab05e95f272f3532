theorem d12_nodeSymbol_0 : jdi cX12_nodeSymbol 0 1 1 := Or.inl ⟨1, by decide +kernel⟩
theorem d12_nodeSymbol_1 : jdk cX12_nodeSymbol 1 0 2 := Or.inl ⟨0, by decide +kernel⟩
theorem d12_nodeSymbol_2 : jda cX12_nodeSymbol 2 0 3 := Or.inl ⟨0, by decide +kernel⟩
theorem d12_nodeSymbol_3 : jd cX12_nodeSymbol 3 (.getfield 302) 3 6 := by decide +kernel
theorem d12_nodeSymbol_6 : jdk cX12_nodeSymbol 6 1 7 := Or.inl ⟨1, by decide +kernel⟩
theorem d12_nodeSymbol_7 : jd cX12_nodeSymbol 7 (.isub) 1 8 := by decide +kernel
theorem d12_nodeSymbol_8 : jd cX12_nodeSymbol 8 (.invokestatic 119) 3 11 := by decide +kernel
theorem d12_nodeSymbol_11 : jdb cX12_nodeSymbol 11 (.ifCond .eq 12) 12 23 14 := by decide +kernel
theorem d12_nodeSymbol_14 : jda cX12_nodeSymbol 14 0 15 := Or.inl ⟨0, by decide +kernel⟩
theorem d12_nodeSymbol_15 : jd cX12_nodeSymbol 15 (.getfield 82) 3 18 := by decide +kernel
theorem d12_nodeSymbol_18 : jdi cX12_nodeSymbol 18 1 19 := Or.inl ⟨1, by decide +kernel⟩
theorem d12_nodeSymbol_19 : jd cX12_nodeSymbol 19 (.iaload) 1 20 := by decide +kernel
theorem d12_nodeSymbol_20 : jdb cX12_nodeSymbol 20 (.goto 5) 5 25 23 := by decide +kernel
theorem d12_nodeSymbol_23 : jdk cX12_nodeSymbol 23 (-2) 25 := Or.inr (Or.inl ⟨(-2), by decide +kernel⟩)
theorem d12_nodeSymbol_25 : decode cX12_nodeSymbol 25 = .ok (.ireturn, 1) := by decide +kernel
set_option maxHeartbeats 4000000 in
set_option maxRecDepth 100000 in
theorem kX12_nodeSymbol (l : Launch) (D : va_G) (tc : jTC) (h_ h_nodeSymbols : Nat) (g_rules g_lefts g_sizes g_rights g_edits g_pastRules g_pastLefts g_pastSizes g_pastRights g_levels g_codes g_details g_asked g_isWorked g_empties g_firsts g_follows g_isKept g_keptEmpties g_keptFirsts g_keptFollows g_strings g_longs g_trial g_trialLong g_foundName g_foundToken g_foundP g_foundQ g_moved g_movedSizes g_synchronizing g_input g_inputLong g_stack g_stackParents g_top g_at g_steps g_traced g_traces g_made g_nodeParents g_errors g_errorAts g_errorKinds g_errorTops g_weights g_bests g_bestLongs g_partly g_partlyLongs g_repaired g_repairedLong : Value) (c_nodes : Int32) (c_nodeSymbols : (Nat → Int32)) (p1 : Int32) : ctI0 l D tc yX12_nodeSymbol (Cond.code yX12_nodeSymbol cX12_nodeSymbol 2 (some .int) :: jtb) ({ frames := 1, cells := 0, slots := 0, locals := 22 } : Room) [.ref h_, .int p1] [(h_, .inr (12, [g_rules, g_lefts, g_sizes, g_rights, g_edits, g_pastRules, g_pastLefts, g_pastSizes, g_pastRights, g_levels, g_codes, g_details, g_asked, g_isWorked, g_empties, g_firsts, g_follows, g_isKept, g_keptEmpties, g_keptFirsts, g_keptFollows, g_strings, g_longs, g_trial, g_trialLong, g_foundName, g_foundToken, g_foundP, g_foundQ, g_moved, g_movedSizes, g_synchronizing, g_input, g_inputLong, g_stack, g_stackParents, g_top, g_at, g_steps, g_traced, g_traces, .int c_nodes, g_made, .ref h_nodeSymbols, g_nodeParents, g_errors, g_errorAts, g_errorKinds, g_errorTops, g_weights, g_bests, g_bestLongs, g_partly, g_partlyLongs, g_repaired, g_repairedLong])), (h_nodeSymbols, .inl (tc.1, 300, .inl c_nodeSymbols))] (fX12_nodeSymbol c_nodes c_nodeSymbols p1) := by
  refine ctI0_of (lv0 := [(0, .ref h_), (1, .int p1)]) (by decide +kernel) (Nat.le_of_ble_eq_true rfl) rfl (fun X C => ?_)
  unfold fX12_nodeSymbol
  refine j_iload C d12_nodeSymbol_0 1 rfl ?_
  refine j_const C d12_nodeSymbol_1 ?_
  refine j_aload C d12_nodeSymbol_2 0 rfl ?_
  refine j_get C d12_nodeSymbol_3 fl12_302 0 rfl rfl ?_
  refine j_const C d12_nodeSymbol_6 ?_
  refine j_isub C d12_nodeSymbol_7 ?_
  refine j_callSI0 (As := [.int p1, .int 0, .int (c_nodes - (1 : Int32))]) C d12_nodeSymbol_8 ms12_119 (kX12_in _ _ tc p1 0 (c_nodes - (1 : Int32))) ⟨rfl, rfl, Nat.le_of_ble_eq_true rfl, Nat.le_of_ble_eq_true rfl⟩ rfl [] rfl rfl rfl (Nat.le_of_ble_eq_true rfl) (fun x1 => ?_)
  refine j_join 25 (fun v2 => [(h_, .inr (12, [g_rules, g_lefts, g_sizes, g_rights, g_edits, g_pastRules, g_pastLefts, g_pastSizes, g_pastRights, g_levels, g_codes, g_details, g_asked, g_isWorked, g_empties, g_firsts, g_follows, g_isKept, g_keptEmpties, g_keptFirsts, g_keptFollows, g_strings, g_longs, g_trial, g_trialLong, g_foundName, g_foundToken, g_foundP, g_foundQ, g_moved, g_movedSizes, g_synchronizing, g_input, g_inputLong, g_stack, g_stackParents, g_top, g_at, g_steps, g_traced, g_traces, .int c_nodes, g_made, .ref h_nodeSymbols, g_nodeParents, g_errors, g_errorAts, g_errorKinds, g_errorTops, g_weights, g_bests, g_bestLongs, g_partly, g_partlyLongs, g_repaired, g_repairedLong])), (h_nodeSymbols, .inl (tc.1, 300, .inl c_nodeSymbols))]) (fun v2 => []) (fun v2 => [.int v2]) (fun v2 => ?_) (fun k3 hk3 => ?_)
  · exact j_iret0 C d12_nodeSymbol_25
  · refine j_if_eq C d12_nodeSymbol_11 ?_ ?_
    · refine j_const C d12_nodeSymbol_23 ?_
      exact j_sub [] rfl (hk3 _)
    · refine j_aload C d12_nodeSymbol_14 0 rfl ?_
      refine j_get C d12_nodeSymbol_15 fl12_82 0 rfl rfl ?_
      refine j_iload C d12_nodeSymbol_18 1 rfl ?_
      refine j_iald C d12_nodeSymbol_19 1 rfl (fun x4 => ?_)
      refine j_goto C d12_nodeSymbol_20 ?_
      exact j_sub [] rfl (hk3 _)

