theorem d12_setWeight_0 : jdi cX12_setWeight 0 1 1 := Or.inl ⟨1, by decide +kernel⟩
theorem d12_setWeight_1 : jdk cX12_setWeight 1 0 2 := Or.inl ⟨0, by decide +kernel⟩
theorem d12_setWeight_2 : jdk cX12_setWeight 2 7 4 := Or.inr (Or.inl ⟨7, by decide +kernel⟩)
theorem d12_setWeight_4 : jd cX12_setWeight 4 (.invokestatic 119) 3 7 := by decide +kernel
theorem d12_setWeight_7 : jdb cX12_setWeight 7 (.ifCond .eq 13) 13 20 10 := by decide +kernel
theorem d12_setWeight_10 : jdi cX12_setWeight 10 2 11 := Or.inl ⟨2, by decide +kernel⟩
theorem d12_setWeight_11 : jdk cX12_setWeight 11 1 12 := Or.inl ⟨1, by decide +kernel⟩
theorem d12_setWeight_12 : jdk cX12_setWeight 12 9 14 := Or.inr (Or.inl ⟨9, by decide +kernel⟩)
theorem d12_setWeight_14 : jd cX12_setWeight 14 (.invokestatic 119) 3 17 := by decide +kernel
theorem d12_setWeight_17 : jdb cX12_setWeight 17 (.ifCond .ne 5) 5 22 20 := by decide +kernel
theorem d12_setWeight_20 : jdk cX12_setWeight 20 (-1) 21 := Or.inl ⟨(-1), by decide +kernel⟩
theorem d12_setWeight_21 : decode cX12_setWeight 21 = .ok (.ireturn, 1) := by decide +kernel
theorem d12_setWeight_22 : jda cX12_setWeight 22 0 23 := Or.inl ⟨0, by decide +kernel⟩
theorem d12_setWeight_23 : jd cX12_setWeight 23 (.getfield 97) 3 26 := by decide +kernel
theorem d12_setWeight_26 : jdi cX12_setWeight 26 1 27 := Or.inl ⟨1, by decide +kernel⟩
theorem d12_setWeight_27 : jd cX12_setWeight 27 (.iaload) 1 28 := by decide +kernel
theorem d12_setWeight_28 : jds cX12_setWeight 28 3 29 := Or.inl ⟨3, by decide +kernel⟩
theorem d12_setWeight_29 : jda cX12_setWeight 29 0 30 := Or.inl ⟨0, by decide +kernel⟩
theorem d12_setWeight_30 : jd cX12_setWeight 30 (.getfield 97) 3 33 := by decide +kernel
theorem d12_setWeight_33 : jdi cX12_setWeight 33 1 34 := Or.inl ⟨1, by decide +kernel⟩
theorem d12_setWeight_34 : jdi cX12_setWeight 34 2 35 := Or.inl ⟨2, by decide +kernel⟩
theorem d12_setWeight_35 : jd cX12_setWeight 35 (.iastore) 1 36 := by decide +kernel
theorem d12_setWeight_36 : jdi cX12_setWeight 36 3 37 := Or.inl ⟨3, by decide +kernel⟩
theorem d12_setWeight_37 : decode cX12_setWeight 37 = .ok (.ireturn, 1) := by decide +kernel
set_option maxHeartbeats 4000000 in
set_option maxRecDepth 100000 in
theorem kX12_setWeight (l : Launch) (D : va_G) (tc : jTC) (h_ h_weights : Nat) (g_rules g_lefts g_sizes g_rights g_edits g_pastRules g_pastLefts g_pastSizes g_pastRights g_levels g_codes g_details g_asked g_isWorked g_empties g_firsts g_follows g_isKept g_keptEmpties g_keptFirsts g_keptFollows g_strings g_longs g_trial g_trialLong g_foundName g_foundToken g_foundP g_foundQ g_moved g_movedSizes g_synchronizing g_input g_inputLong g_stack g_stackParents g_top g_at g_steps g_traced g_traces g_nodes g_made g_nodeSymbols g_nodeParents g_errors g_errorAts g_errorKinds g_errorTops g_bests g_bestLongs g_partly g_partlyLongs g_repaired g_repairedLong : Value) (c_weights : (Nat → Int32)) (p1 : Int32) (p2 : Int32) : ctI l D tc yX12_setWeight (Cond.code yX12_setWeight cX12_setWeight 4 (some .int) :: jtb) ({ frames := 1, cells := 0, slots := 0, locals := 22 } : Room) [.ref h_, .int p1, .int p2] [(h_, .inr (12, [g_rules, g_lefts, g_sizes, g_rights, g_edits, g_pastRules, g_pastLefts, g_pastSizes, g_pastRights, g_levels, g_codes, g_details, g_asked, g_isWorked, g_empties, g_firsts, g_follows, g_isKept, g_keptEmpties, g_keptFirsts, g_keptFollows, g_strings, g_longs, g_trial, g_trialLong, g_foundName, g_foundToken, g_foundP, g_foundQ, g_moved, g_movedSizes, g_synchronizing, g_input, g_inputLong, g_stack, g_stackParents, g_top, g_at, g_steps, g_traced, g_traces, g_nodes, g_made, g_nodeSymbols, g_nodeParents, g_errors, g_errorAts, g_errorKinds, g_errorTops, .ref h_weights, g_bests, g_bestLongs, g_partly, g_partlyLongs, g_repaired, g_repairedLong])), (h_weights, .inl (tc.1, 8, .inl c_weights))] (fX12_setWeight c_weights p1 p2) (fun (u : (Nat → Int32)) => [(h_, .inr (12, [g_rules, g_lefts, g_sizes, g_rights, g_edits, g_pastRules, g_pastLefts, g_pastSizes, g_pastRights, g_levels, g_codes, g_details, g_asked, g_isWorked, g_empties, g_firsts, g_follows, g_isKept, g_keptEmpties, g_keptFirsts, g_keptFollows, g_strings, g_longs, g_trial, g_trialLong, g_foundName, g_foundToken, g_foundP, g_foundQ, g_moved, g_movedSizes, g_synchronizing, g_input, g_inputLong, g_stack, g_stackParents, g_top, g_at, g_steps, g_traced, g_traces, g_nodes, g_made, g_nodeSymbols, g_nodeParents, g_errors, g_errorAts, g_errorKinds, g_errorTops, .ref h_weights, g_bests, g_bestLongs, g_partly, g_partlyLongs, g_repaired, g_repairedLong])), (h_weights, .inl (tc.1, 8, .inl u))]) := by
  refine ctI_of (lv0 := [(0, .ref h_), (1, .int p1), (2, .int p2)]) (by decide +kernel) (Nat.le_of_ble_eq_true rfl) rfl (fun X C => ?_)
  unfold fX12_setWeight
  refine j_iload C d12_setWeight_0 1 rfl ?_
  refine j_const C d12_setWeight_1 ?_
  refine j_const C d12_setWeight_2 ?_
  refine j_callSI0 (As := [.int p1, .int 0, .int 7]) C d12_setWeight_4 ms12_119 (kX12_in _ _ tc p1 0 7) ⟨rfl, rfl, Nat.le_of_ble_eq_true rfl, Nat.le_of_ble_eq_true rfl⟩ rfl [] rfl rfl rfl (Nat.le_of_ble_eq_true rfl) (fun x1 => ?_)
  refine j_join 20 (fun v2 => [(h_, .inr (12, [g_rules, g_lefts, g_sizes, g_rights, g_edits, g_pastRules, g_pastLefts, g_pastSizes, g_pastRights, g_levels, g_codes, g_details, g_asked, g_isWorked, g_empties, g_firsts, g_follows, g_isKept, g_keptEmpties, g_keptFirsts, g_keptFollows, g_strings, g_longs, g_trial, g_trialLong, g_foundName, g_foundToken, g_foundP, g_foundQ, g_moved, g_movedSizes, g_synchronizing, g_input, g_inputLong, g_stack, g_stackParents, g_top, g_at, g_steps, g_traced, g_traces, g_nodes, g_made, g_nodeSymbols, g_nodeParents, g_errors, g_errorAts, g_errorKinds, g_errorTops, .ref h_weights, g_bests, g_bestLongs, g_partly, g_partlyLongs, g_repaired, g_repairedLong])), (h_weights, .inl (tc.1, 8, .inl c_weights))]) (fun v2 => []) (fun v2 => []) (fun v2 => ?_) (fun k3 hk3 => ?_)
  · refine j_const C d12_setWeight_20 ?_
    exact j_iret C d12_setWeight_21 rfl
  · refine j_if_eq C d12_setWeight_7 ?_ ?_
    · exact j_sub [] rfl (hk3 _)
    · refine j_iload C d12_setWeight_10 2 rfl ?_
      refine j_const C d12_setWeight_11 ?_
      refine j_const C d12_setWeight_12 ?_
      refine j_callSI0 (As := [.int p2, .int 1, .int 9]) C d12_setWeight_14 ms12_119 (kX12_in _ _ tc p2 1 9) ⟨rfl, rfl, Nat.le_of_ble_eq_true rfl, Nat.le_of_ble_eq_true rfl⟩ rfl [] rfl rfl rfl (Nat.le_of_ble_eq_true rfl) (fun x4 => ?_)
      refine j_if_ne C d12_setWeight_17 ?_ ?_
      · refine j_aload C d12_setWeight_22 0 rfl ?_
        refine j_get C d12_setWeight_23 fl12_97 0 rfl rfl ?_
        refine j_iload C d12_setWeight_26 1 rfl ?_
        refine j_iald C d12_setWeight_27 1 rfl (fun x5 => ?_)
        refine j_istore C d12_setWeight_28 (by decide) (lv' := [(3, .int x5), (0, .ref h_), (1, .int p1), (2, .int p2)]) rfl ?_
        refine j_aload C d12_setWeight_29 1 rfl ?_
        refine j_get C d12_setWeight_30 fl12_97 0 rfl rfl ?_
        refine j_iload C d12_setWeight_33 2 rfl ?_
        refine j_iload C d12_setWeight_34 3 rfl ?_
        refine j_iast C (fun f6 => [(h_, .inr (12, [g_rules, g_lefts, g_sizes, g_rights, g_edits, g_pastRules, g_pastLefts, g_pastSizes, g_pastRights, g_levels, g_codes, g_details, g_asked, g_isWorked, g_empties, g_firsts, g_follows, g_isKept, g_keptEmpties, g_keptFirsts, g_keptFollows, g_strings, g_longs, g_trial, g_trialLong, g_foundName, g_foundToken, g_foundP, g_foundQ, g_moved, g_movedSizes, g_synchronizing, g_input, g_inputLong, g_stack, g_stackParents, g_top, g_at, g_steps, g_traced, g_traces, g_nodes, g_made, g_nodeSymbols, g_nodeParents, g_errors, g_errorAts, g_errorKinds, g_errorTops, .ref h_weights, g_bests, g_bestLongs, g_partly, g_partlyLongs, g_repaired, g_repairedLong])), (h_weights, .inl (tc.1, 8, .inl f6))]) d12_setWeight_35 1 rfl (fun _ => rfl) (fun f6 => ?_)
        refine j_iload C d12_setWeight_36 0 rfl ?_
        exact j_iret C d12_setWeight_37 rfl
      · exact j_sub [] rfl (hk3 _)

