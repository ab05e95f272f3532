theorem d12_repairedTerminal_0 : jdi cX12_repairedTerminal 0 1 1 := Or.inl ⟨1, by decide +kernel⟩
theorem d12_repairedTerminal_1 : jdk cX12_repairedTerminal 1 0 2 := Or.inl ⟨0, by decide +kernel⟩
theorem d12_repairedTerminal_2 : jda cX12_repairedTerminal 2 0 3 := Or.inl ⟨0, by decide +kernel⟩
theorem d12_repairedTerminal_3 : jd cX12_repairedTerminal 3 (.getfield 115) 3 6 := by decide +kernel
theorem d12_repairedTerminal_6 : jdk cX12_repairedTerminal 6 1 7 := Or.inl ⟨1, by decide +kernel⟩
theorem d12_repairedTerminal_7 : jd cX12_repairedTerminal 7 (.isub) 1 8 := by decide +kernel
theorem d12_repairedTerminal_8 : jd cX12_repairedTerminal 8 (.invokestatic 119) 3 11 := by decide +kernel
theorem d12_repairedTerminal_11 : jdb cX12_repairedTerminal 11 (.ifCond .eq 12) 12 23 14 := by decide +kernel
theorem d12_repairedTerminal_14 : jda cX12_repairedTerminal 14 0 15 := Or.inl ⟨0, by decide +kernel⟩
theorem d12_repairedTerminal_15 : jd cX12_repairedTerminal 15 (.getfield 112) 3 18 := by decide +kernel
theorem d12_repairedTerminal_18 : jdi cX12_repairedTerminal 18 1 19 := Or.inl ⟨1, by decide +kernel⟩
theorem d12_repairedTerminal_19 : jd cX12_repairedTerminal 19 (.iaload) 1 20 := by decide +kernel
theorem d12_repairedTerminal_20 : jdb cX12_repairedTerminal 20 (.goto 5) 5 25 23 := by decide +kernel
theorem d12_repairedTerminal_23 : jdk cX12_repairedTerminal 23 (-2) 25 := Or.inr (Or.inl ⟨(-2), by decide +kernel⟩)
theorem d12_repairedTerminal_25 : decode cX12_repairedTerminal 25 = .ok (.ireturn, 1) := by decide +kernel
set_option maxHeartbeats 4000000 in
set_option maxRecDepth 100000 in
theorem kX12_repairedTerminal (l : Launch) (D : va_G) (tc : jTC) (h_ h_repaired : Nat) (g_rules g_lefts g_sizes g_rights g_edits g_pastRules g_pastLefts g_pastSizes g_pastRights g_levels g_codes g_details g_asked g_isWorked g_empties g_firsts g_follows g_isKept g_keptEmpties g_keptFirsts g_keptFollows g_strings g_longs g_trial g_trialLong g_foundName g_foundToken g_foundP g_foundQ g_moved g_movedSizes g_synchronizing g_input g_inputLong g_stack g_stackParents g_top g_at g_steps g_traced g_traces g_nodes g_made g_nodeSymbols g_nodeParents g_errors g_errorAts g_errorKinds g_errorTops g_weights g_bests g_bestLongs g_partly g_partlyLongs : Value) (c_repaired : (Nat → Int32)) (c_repairedLong : Int32) (p1 : Int32) : ctI0 l D tc yX12_repairedTerminal (Cond.code yX12_repairedTerminal cX12_repairedTerminal 2 (some .int) :: jtb) ({ frames := 1, cells := 0, slots := 0, locals := 22 } : Room) [.ref h_, .int p1] [(h_, .inr (12, [g_rules, g_lefts, g_sizes, g_rights, g_edits, g_pastRules, g_pastLefts, g_pastSizes, g_pastRights, g_levels, g_codes, g_details, g_asked, g_isWorked, g_empties, g_firsts, g_follows, g_isKept, g_keptEmpties, g_keptFirsts, g_keptFollows, g_strings, g_longs, g_trial, g_trialLong, g_foundName, g_foundToken, g_foundP, g_foundQ, g_moved, g_movedSizes, g_synchronizing, g_input, g_inputLong, g_stack, g_stackParents, g_top, g_at, g_steps, g_traced, g_traces, g_nodes, g_made, g_nodeSymbols, g_nodeParents, g_errors, g_errorAts, g_errorKinds, g_errorTops, g_weights, g_bests, g_bestLongs, g_partly, g_partlyLongs, .ref h_repaired, .int c_repairedLong])), (h_repaired, .inl (tc.1, 40, .inl c_repaired))] (fX12_repairedTerminal c_repaired c_repairedLong p1) := by
  refine ctI0_of (lv0 := [(0, .ref h_), (1, .int p1)]) (by decide +kernel) (Nat.le_of_ble_eq_true rfl) rfl (fun X C => ?_)
  unfold fX12_repairedTerminal
  refine j_iload C d12_repairedTerminal_0 1 rfl ?_
  refine j_const C d12_repairedTerminal_1 ?_
  refine j_aload C d12_repairedTerminal_2 0 rfl ?_
  refine j_get C d12_repairedTerminal_3 fl12_115 0 rfl rfl ?_
  refine j_const C d12_repairedTerminal_6 ?_
  refine j_isub C d12_repairedTerminal_7 ?_
  refine j_callSI0 (As := [.int p1, .int 0, .int (c_repairedLong - (1 : Int32))]) C d12_repairedTerminal_8 ms12_119 (kX12_in _ _ tc p1 0 (c_repairedLong - (1 : Int32))) ⟨rfl, rfl, Nat.le_of_ble_eq_true rfl, Nat.le_of_ble_eq_true rfl⟩ rfl [] rfl rfl rfl (Nat.le_of_ble_eq_true rfl) (fun x1 => ?_)
  refine j_join 25 (fun v2 => [(h_, .inr (12, [g_rules, g_lefts, g_sizes, g_rights, g_edits, g_pastRules, g_pastLefts, g_pastSizes, g_pastRights, g_levels, g_codes, g_details, g_asked, g_isWorked, g_empties, g_firsts, g_follows, g_isKept, g_keptEmpties, g_keptFirsts, g_keptFollows, g_strings, g_longs, g_trial, g_trialLong, g_foundName, g_foundToken, g_foundP, g_foundQ, g_moved, g_movedSizes, g_synchronizing, g_input, g_inputLong, g_stack, g_stackParents, g_top, g_at, g_steps, g_traced, g_traces, g_nodes, g_made, g_nodeSymbols, g_nodeParents, g_errors, g_errorAts, g_errorKinds, g_errorTops, g_weights, g_bests, g_bestLongs, g_partly, g_partlyLongs, .ref h_repaired, .int c_repairedLong])), (h_repaired, .inl (tc.1, 40, .inl c_repaired))]) (fun v2 => []) (fun v2 => [.int v2]) (fun v2 => ?_) (fun k3 hk3 => ?_)
  · exact j_iret0 C d12_repairedTerminal_25
  · refine j_if_eq C d12_repairedTerminal_11 ?_ ?_
    · refine j_const C d12_repairedTerminal_23 ?_
      exact j_sub [] rfl (hk3 _)
    · refine j_aload C d12_repairedTerminal_14 0 rfl ?_
      refine j_get C d12_repairedTerminal_15 fl12_112 0 rfl rfl ?_
      refine j_iload C d12_repairedTerminal_18 1 rfl ?_
      refine j_iald C d12_repairedTerminal_19 1 rfl (fun x4 => ?_)
      refine j_goto C d12_repairedTerminal_20 ?_
      exact j_sub [] rfl (hk3 _)

