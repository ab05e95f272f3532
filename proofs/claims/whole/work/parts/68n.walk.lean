theorem d12_isLess_0 : jdi cX12_isLess 0 3 1 := Or.inl ⟨3, by decide +kernel⟩
theorem d12_isLess_1 : jdb cX12_isLess 1 (.ifCond .lt 11) 11 12 4 := by decide +kernel
theorem d12_isLess_4 : jda cX12_isLess 4 0 5 := Or.inl ⟨0, by decide +kernel⟩
theorem d12_isLess_5 : jd cX12_isLess 5 (.getfield 212) 3 8 := by decide +kernel
theorem d12_isLess_8 : jdi cX12_isLess 8 3 9 := Or.inl ⟨3, by decide +kernel⟩
theorem d12_isLess_9 : jdb cX12_isLess 9 (.if_icmp .eq 21) 21 30 12 := by decide +kernel
theorem d12_isLess_12 : jdi cX12_isLess 12 3 13 := Or.inl ⟨3, by decide +kernel⟩
theorem d12_isLess_13 : jdb cX12_isLess 13 (.ifCond .lt 11) 11 24 16 := by decide +kernel
theorem d12_isLess_16 : jda cX12_isLess 16 0 17 := Or.inl ⟨0, by decide +kernel⟩
theorem d12_isLess_17 : jd cX12_isLess 17 (.getfield 212) 3 20 := by decide +kernel
theorem d12_isLess_20 : jdi cX12_isLess 20 3 21 := Or.inl ⟨3, by decide +kernel⟩
theorem d12_isLess_21 : jdb cX12_isLess 21 (.if_icmp .ge 7) 7 28 24 := by decide +kernel
theorem d12_isLess_24 : jdk cX12_isLess 24 1 25 := Or.inl ⟨1, by decide +kernel⟩
theorem d12_isLess_25 : jdb cX12_isLess 25 (.goto 4) 4 29 28 := by decide +kernel
theorem d12_isLess_28 : jdk cX12_isLess 28 0 29 := Or.inl ⟨0, by decide +kernel⟩
theorem d12_isLess_29 : decode cX12_isLess 29 = .ok (.ireturn, 1) := by decide +kernel
theorem d12_isLess_30 : jda cX12_isLess 30 0 31 := Or.inl ⟨0, by decide +kernel⟩
theorem d12_isLess_31 : jda cX12_isLess 31 0 32 := Or.inl ⟨0, by decide +kernel⟩
theorem d12_isLess_32 : jd cX12_isLess 32 (.getfield 58) 3 35 := by decide +kernel
theorem d12_isLess_35 : jdk cX12_isLess 35 0 36 := Or.inl ⟨0, by decide +kernel⟩
theorem d12_isLess_36 : jda cX12_isLess 36 0 37 := Or.inl ⟨0, by decide +kernel⟩
theorem d12_isLess_37 : jd cX12_isLess 37 (.getfield 212) 3 40 := by decide +kernel
theorem d12_isLess_40 : jd cX12_isLess 40 (.invokevirtual 338) 3 43 := by decide +kernel
theorem d12_isLess_43 : jds cX12_isLess 43 4 45 := Or.inr (by decide +kernel)
theorem d12_isLess_45 : jda cX12_isLess 45 0 46 := Or.inl ⟨0, by decide +kernel⟩
theorem d12_isLess_46 : jda cX12_isLess 46 1 47 := Or.inl ⟨1, by decide +kernel⟩
theorem d12_isLess_47 : jdi cX12_isLess 47 2 48 := Or.inl ⟨2, by decide +kernel⟩
theorem d12_isLess_48 : jdi cX12_isLess 48 3 49 := Or.inl ⟨3, by decide +kernel⟩
theorem d12_isLess_49 : jd cX12_isLess 49 (.invokevirtual 338) 3 52 := by decide +kernel
theorem d12_isLess_52 : jds cX12_isLess 52 5 54 := Or.inr (by decide +kernel)
theorem d12_isLess_54 : jdi cX12_isLess 54 4 56 := Or.inr (by decide +kernel)
theorem d12_isLess_56 : jdi cX12_isLess 56 5 58 := Or.inr (by decide +kernel)
theorem d12_isLess_58 : jdb cX12_isLess 58 (.if_icmp .eq 16) 16 74 61 := by decide +kernel
theorem d12_isLess_61 : jdi cX12_isLess 61 4 63 := Or.inr (by decide +kernel)
theorem d12_isLess_63 : jdi cX12_isLess 63 5 65 := Or.inr (by decide +kernel)
theorem d12_isLess_65 : jdb cX12_isLess 65 (.if_icmp .ge 7) 7 72 68 := by decide +kernel
theorem d12_isLess_68 : jdk cX12_isLess 68 1 69 := Or.inl ⟨1, by decide +kernel⟩
theorem d12_isLess_69 : jdb cX12_isLess 69 (.goto 4) 4 73 72 := by decide +kernel
theorem d12_isLess_72 : jdk cX12_isLess 72 0 73 := Or.inl ⟨0, by decide +kernel⟩
theorem d12_isLess_73 : decode cX12_isLess 73 = .ok (.ireturn, 1) := by decide +kernel
theorem d12_isLess_74 : jdk cX12_isLess 74 0 75 := Or.inl ⟨0, by decide +kernel⟩
theorem d12_isLess_75 : jds cX12_isLess 75 6 77 := Or.inr (by decide +kernel)
theorem d12_isLess_77 : jdi cX12_isLess 77 6 79 := Or.inr (by decide +kernel)
theorem d12_isLess_79 : jdi cX12_isLess 79 3 80 := Or.inl ⟨3, by decide +kernel⟩
theorem d12_isLess_80 : jdb cX12_isLess 80 (.if_icmp .ge 25) 25 105 83 := by decide +kernel
theorem d12_isLess_83 : jda cX12_isLess 83 0 84 := Or.inl ⟨0, by decide +kernel⟩
theorem d12_isLess_84 : jd cX12_isLess 84 (.getfield 58) 3 87 := by decide +kernel
theorem d12_isLess_87 : jdi cX12_isLess 87 6 89 := Or.inr (by decide +kernel)
theorem d12_isLess_89 : jd cX12_isLess 89 (.iaload) 1 90 := by decide +kernel
theorem d12_isLess_90 : jda cX12_isLess 90 1 91 := Or.inl ⟨1, by decide +kernel⟩
theorem d12_isLess_91 : jdi cX12_isLess 91 2 92 := Or.inl ⟨2, by decide +kernel⟩
theorem d12_isLess_92 : jdi cX12_isLess 92 6 94 := Or.inr (by decide +kernel)
theorem d12_isLess_94 : jd cX12_isLess 94 (.iadd) 1 95 := by decide +kernel
theorem d12_isLess_95 : jd cX12_isLess 95 (.iaload) 1 96 := by decide +kernel
theorem d12_isLess_96 : jdb cX12_isLess 96 (.if_icmp .ne 9) 9 105 99 := by decide +kernel
theorem d12_isLess_99 : jd cX12_isLess 99 (.iinc 6 1) 3 102 := by decide +kernel
theorem d12_isLess_102 : jdb cX12_isLess 102 (.goto (-25)) (-25) 77 105 := by decide +kernel
theorem d12_isLess_105 : jdi cX12_isLess 105 6 107 := Or.inr (by decide +kernel)
theorem d12_isLess_107 : jdi cX12_isLess 107 3 108 := Or.inl ⟨3, by decide +kernel⟩
theorem d12_isLess_108 : jdb cX12_isLess 108 (.if_icmp .ge 23) 23 131 111 := by decide +kernel
theorem d12_isLess_111 : jda cX12_isLess 111 0 112 := Or.inl ⟨0, by decide +kernel⟩
theorem d12_isLess_112 : jd cX12_isLess 112 (.getfield 58) 3 115 := by decide +kernel
theorem d12_isLess_115 : jdi cX12_isLess 115 6 117 := Or.inr (by decide +kernel)
theorem d12_isLess_117 : jd cX12_isLess 117 (.iaload) 1 118 := by decide +kernel
theorem d12_isLess_118 : jda cX12_isLess 118 1 119 := Or.inl ⟨1, by decide +kernel⟩
theorem d12_isLess_119 : jdi cX12_isLess 119 2 120 := Or.inl ⟨2, by decide +kernel⟩
theorem d12_isLess_120 : jdi cX12_isLess 120 6 122 := Or.inr (by decide +kernel)
theorem d12_isLess_122 : jd cX12_isLess 122 (.iadd) 1 123 := by decide +kernel
theorem d12_isLess_123 : jd cX12_isLess 123 (.iaload) 1 124 := by decide +kernel
theorem d12_isLess_124 : jdb cX12_isLess 124 (.if_icmp .ge 7) 7 131 127 := by decide +kernel
theorem d12_isLess_127 : jdk cX12_isLess 127 1 128 := Or.inl ⟨1, by decide +kernel⟩
theorem d12_isLess_128 : jdb cX12_isLess 128 (.goto 4) 4 132 131 := by decide +kernel
theorem d12_isLess_131 : jdk cX12_isLess 131 0 132 := Or.inl ⟨0, by decide +kernel⟩
theorem d12_isLess_132 : decode cX12_isLess 132 = .ok (.ireturn, 1) := by decide +kernel
set_option maxHeartbeats 4000000 in
set_option maxRecDepth 100000 in
theorem wX12_isLess_partly_77 {X : jC} {tc : jTC} (C : jx X cX12_isLess 7 RX12 (some .boolean) tc ({ frames := 1, cells := 0, slots := 0, locals := 25 } : Room)) (h_ h_trial h_weights h_partly : Nat) (g_rules g_lefts g_sizes g_rights g_edits g_pastRules g_pastLefts g_pastSizes g_pastRights g_levels g_codes g_details g_asked g_isWorked g_empties g_firsts g_follows g_isKept g_keptEmpties g_keptFirsts g_keptFollows g_strings g_longs g_foundName g_foundToken g_foundP g_foundQ g_moved g_movedSizes g_synchronizing g_input g_inputLong g_stack g_stackParents g_top g_at g_steps g_traced g_traces g_nodes g_made g_nodeSymbols g_nodeParents g_errors g_errorAts g_errorKinds g_errorTops g_bests g_bestLongs g_partlyLongs g_repaired g_repairedLong : Value) (p2 : Int32) (p3 : Int32) (c_trial : (Nat → Int32)) (c_trialLong : Int32) (c_weights : (Nat → Int32)) (c_partly : (Nat → Int32)) (k16 : (Int32 → Option (Int32))) (hk16 : ∀ w22 : Int32, jo X 7 (0, 0) (jQI0 X [(h_, .inr (12, [g_rules, g_lefts, g_sizes, g_rights, g_edits, g_pastRules, g_pastLefts, g_pastSizes, g_pastRights, g_levels, g_codes, g_details, g_asked, g_isWorked, g_empties, g_firsts, g_follows, g_isKept, g_keptEmpties, g_keptFirsts, g_keptFollows, g_strings, g_longs, .ref h_trial, .int c_trialLong, g_foundName, g_foundToken, g_foundP, g_foundQ, g_moved, g_movedSizes, g_synchronizing, g_input, g_inputLong, g_stack, g_stackParents, g_top, g_at, g_steps, g_traced, g_traces, g_nodes, g_made, g_nodeSymbols, g_nodeParents, g_errors, g_errorAts, g_errorKinds, g_errorTops, .ref h_weights, g_bests, g_bestLongs, .ref h_partly, g_partlyLongs, g_repaired, g_repairedLong])), (h_trial, .inl (tc.1, 40, .inl c_trial)), (h_weights, .inl (tc.1, 8, .inl c_weights)), (h_partly, .inl (tc.1, 2160, .inl c_partly))]) (k16 w22) [(h_, .inr (12, [g_rules, g_lefts, g_sizes, g_rights, g_edits, g_pastRules, g_pastLefts, g_pastSizes, g_pastRights, g_levels, g_codes, g_details, g_asked, g_isWorked, g_empties, g_firsts, g_follows, g_isKept, g_keptEmpties, g_keptFirsts, g_keptFollows, g_strings, g_longs, .ref h_trial, .int c_trialLong, g_foundName, g_foundToken, g_foundP, g_foundQ, g_moved, g_movedSizes, g_synchronizing, g_input, g_inputLong, g_stack, g_stackParents, g_top, g_at, g_steps, g_traced, g_traces, g_nodes, g_made, g_nodeSymbols, g_nodeParents, g_errors, g_errorAts, g_errorKinds, g_errorTops, .ref h_weights, g_bests, g_bestLongs, .ref h_partly, g_partlyLongs, g_repaired, g_repairedLong])), (h_trial, .inl (tc.1, 40, .inl c_trial)), (h_weights, .inl (tc.1, 8, .inl c_weights)), (h_partly, .inl (tc.1, 2160, .inl c_partly))] 105 [(0, .ref h_), (1, .ref h_partly), (2, .int p2), (3, .int p3), (6, .int w22)] []) (rc18 : Int32 → Option (Int32)) (hrc18 : ∀ v17 : Int32, jo X 7 (0, 0) (jQI0 X [(h_, .inr (12, [g_rules, g_lefts, g_sizes, g_rights, g_edits, g_pastRules, g_pastLefts, g_pastSizes, g_pastRights, g_levels, g_codes, g_details, g_asked, g_isWorked, g_empties, g_firsts, g_follows, g_isKept, g_keptEmpties, g_keptFirsts, g_keptFollows, g_strings, g_longs, .ref h_trial, .int c_trialLong, g_foundName, g_foundToken, g_foundP, g_foundQ, g_moved, g_movedSizes, g_synchronizing, g_input, g_inputLong, g_stack, g_stackParents, g_top, g_at, g_steps, g_traced, g_traces, g_nodes, g_made, g_nodeSymbols, g_nodeParents, g_errors, g_errorAts, g_errorKinds, g_errorTops, .ref h_weights, g_bests, g_bestLongs, .ref h_partly, g_partlyLongs, g_repaired, g_repairedLong])), (h_trial, .inl (tc.1, 40, .inl c_trial)), (h_weights, .inl (tc.1, 8, .inl c_weights)), (h_partly, .inl (tc.1, 2160, .inl c_partly))]) (rc18 v17) [(h_, .inr (12, [g_rules, g_lefts, g_sizes, g_rights, g_edits, g_pastRules, g_pastLefts, g_pastSizes, g_pastRights, g_levels, g_codes, g_details, g_asked, g_isWorked, g_empties, g_firsts, g_follows, g_isKept, g_keptEmpties, g_keptFirsts, g_keptFollows, g_strings, g_longs, .ref h_trial, .int c_trialLong, g_foundName, g_foundToken, g_foundP, g_foundQ, g_moved, g_movedSizes, g_synchronizing, g_input, g_inputLong, g_stack, g_stackParents, g_top, g_at, g_steps, g_traced, g_traces, g_nodes, g_made, g_nodeSymbols, g_nodeParents, g_errors, g_errorAts, g_errorKinds, g_errorTops, .ref h_weights, g_bests, g_bestLongs, .ref h_partly, g_partlyLongs, g_repaired, g_repairedLong])), (h_trial, .inl (tc.1, 40, .inl c_trial)), (h_weights, .inl (tc.1, 8, .inl c_weights)), (h_partly, .inl (tc.1, 2160, .inl c_partly))] 77 [(0, .ref h_), (1, .ref h_partly), (2, .int p2), (3, .int p3), (6, .int v17)] []) (v17 : Int32) : jo X 7 (0, 0) (jQI0 X [(h_, .inr (12, [g_rules, g_lefts, g_sizes, g_rights, g_edits, g_pastRules, g_pastLefts, g_pastSizes, g_pastRights, g_levels, g_codes, g_details, g_asked, g_isWorked, g_empties, g_firsts, g_follows, g_isKept, g_keptEmpties, g_keptFirsts, g_keptFollows, g_strings, g_longs, .ref h_trial, .int c_trialLong, g_foundName, g_foundToken, g_foundP, g_foundQ, g_moved, g_movedSizes, g_synchronizing, g_input, g_inputLong, g_stack, g_stackParents, g_top, g_at, g_steps, g_traced, g_traces, g_nodes, g_made, g_nodeSymbols, g_nodeParents, g_errors, g_errorAts, g_errorKinds, g_errorTops, .ref h_weights, g_bests, g_bestLongs, .ref h_partly, g_partlyLongs, g_repaired, g_repairedLong])), (h_trial, .inl (tc.1, 40, .inl c_trial)), (h_weights, .inl (tc.1, 8, .inl c_weights)), (h_partly, .inl (tc.1, 2160, .inl c_partly))]) (bX12_isLess_partly_77 p2 p3 c_trial c_partly k16 rc18 v17) [(h_, .inr (12, [g_rules, g_lefts, g_sizes, g_rights, g_edits, g_pastRules, g_pastLefts, g_pastSizes, g_pastRights, g_levels, g_codes, g_details, g_asked, g_isWorked, g_empties, g_firsts, g_follows, g_isKept, g_keptEmpties, g_keptFirsts, g_keptFollows, g_strings, g_longs, .ref h_trial, .int c_trialLong, g_foundName, g_foundToken, g_foundP, g_foundQ, g_moved, g_movedSizes, g_synchronizing, g_input, g_inputLong, g_stack, g_stackParents, g_top, g_at, g_steps, g_traced, g_traces, g_nodes, g_made, g_nodeSymbols, g_nodeParents, g_errors, g_errorAts, g_errorKinds, g_errorTops, .ref h_weights, g_bests, g_bestLongs, .ref h_partly, g_partlyLongs, g_repaired, g_repairedLong])), (h_trial, .inl (tc.1, 40, .inl c_trial)), (h_weights, .inl (tc.1, 8, .inl c_weights)), (h_partly, .inl (tc.1, 2160, .inl c_partly))] 77 [(0, .ref h_), (1, .ref h_partly), (2, .int p2), (3, .int p3), (6, .int v17)] [] := by
  unfold bX12_isLess_partly_77
  refine j_iload C d12_isLess_77 4 rfl ?_
  refine j_iload C d12_isLess_79 3 rfl ?_
  refine j_icmp_ge C d12_isLess_80 ?_ ?_
  · exact hk16 _
  · refine j_aload C d12_isLess_83 0 rfl ?_
    refine j_get C d12_isLess_84 fl12_58 0 rfl rfl ?_
    refine j_iload C d12_isLess_87 4 rfl ?_
    refine j_iald C d12_isLess_89 1 rfl (fun x19 => ?_)
    refine j_aload C d12_isLess_90 1 rfl ?_
    refine j_iload C d12_isLess_91 2 rfl ?_
    refine j_iload C d12_isLess_92 4 rfl ?_
    refine j_iadd C d12_isLess_94 ?_
    refine j_iald C d12_isLess_95 3 rfl (fun x20 => ?_)
    refine j_icmp_ne C d12_isLess_96 ?_ ?_
    · exact hk16 _
    · refine j_iincN C (fun x21 => [(6, .int x21), (0, .ref h_), (1, .ref h_partly), (2, .int p2), (3, .int p3)]) d12_isLess_99 4 rfl (by decide +kernel) (by decide) (fun _ => rfl) (fun x21 => ?_)
      refine j_goto C d12_isLess_102 ?_
      exact j_sub [1, 2, 3, 4, 0] rfl (hrc18 _)

set_option maxHeartbeats 4000000 in
set_option maxRecDepth 100000 in
theorem kX12_isLess_partly (l : Launch) (D : va_G) (tc : jTC) (N : Nat) (h_ h_trial h_weights h_partly : Nat) (g_rules g_lefts g_sizes g_rights g_edits g_pastRules g_pastLefts g_pastSizes g_pastRights g_levels g_codes g_details g_asked g_isWorked g_empties g_firsts g_follows g_isKept g_keptEmpties g_keptFirsts g_keptFollows g_strings g_longs g_foundName g_foundToken g_foundP g_foundQ g_moved g_movedSizes g_synchronizing g_input g_inputLong g_stack g_stackParents g_top g_at g_steps g_traced g_traces g_nodes g_made g_nodeSymbols g_nodeParents g_errors g_errorAts g_errorKinds g_errorTops g_bests g_bestLongs g_partlyLongs g_repaired g_repairedLong : Value) (c_trial : (Nat → Int32)) (c_trialLong : Int32) (c_weights : (Nat → Int32)) (c_partly : (Nat → Int32)) (p2 : Int32) (p3 : Int32) : ctI0 l D tc yX12_isLess (Cond.code yX12_isLess cX12_isLess 7 (some .boolean) :: jtb) ({ frames := 1, cells := 0, slots := 0, locals := 25 } : Room) [.ref h_, .ref h_partly, .int p2, .int p3] [(h_, .inr (12, [g_rules, g_lefts, g_sizes, g_rights, g_edits, g_pastRules, g_pastLefts, g_pastSizes, g_pastRights, g_levels, g_codes, g_details, g_asked, g_isWorked, g_empties, g_firsts, g_follows, g_isKept, g_keptEmpties, g_keptFirsts, g_keptFollows, g_strings, g_longs, .ref h_trial, .int c_trialLong, g_foundName, g_foundToken, g_foundP, g_foundQ, g_moved, g_movedSizes, g_synchronizing, g_input, g_inputLong, g_stack, g_stackParents, g_top, g_at, g_steps, g_traced, g_traces, g_nodes, g_made, g_nodeSymbols, g_nodeParents, g_errors, g_errorAts, g_errorKinds, g_errorTops, .ref h_weights, g_bests, g_bestLongs, .ref h_partly, g_partlyLongs, g_repaired, g_repairedLong])), (h_trial, .inl (tc.1, 40, .inl c_trial)), (h_weights, .inl (tc.1, 8, .inl c_weights)), (h_partly, .inl (tc.1, 2160, .inl c_partly))] (fX12_isLess_partly N c_trial c_trialLong c_weights c_partly p2 p3) := by
  refine ctI0_of (lv0 := [(0, .ref h_), (1, .ref h_partly), (2, .int p2), (3, .int p3)]) (by decide +kernel) (Nat.le_of_ble_eq_true rfl) rfl (fun X C => ?_)
  unfold fX12_isLess_partly
  refine j_iload C d12_isLess_0 3 rfl ?_
  refine j_join 12 (fun v1 => [(h_, .inr (12, [g_rules, g_lefts, g_sizes, g_rights, g_edits, g_pastRules, g_pastLefts, g_pastSizes, g_pastRights, g_levels, g_codes, g_details, g_asked, g_isWorked, g_empties, g_firsts, g_follows, g_isKept, g_keptEmpties, g_keptFirsts, g_keptFollows, g_strings, g_longs, .ref h_trial, .int c_trialLong, g_foundName, g_foundToken, g_foundP, g_foundQ, g_moved, g_movedSizes, g_synchronizing, g_input, g_inputLong, g_stack, g_stackParents, g_top, g_at, g_steps, g_traced, g_traces, g_nodes, g_made, g_nodeSymbols, g_nodeParents, g_errors, g_errorAts, g_errorKinds, g_errorTops, .ref h_weights, g_bests, g_bestLongs, .ref h_partly, g_partlyLongs, g_repaired, g_repairedLong])), (h_trial, .inl (tc.1, 40, .inl c_trial)), (h_weights, .inl (tc.1, 8, .inl c_weights)), (h_partly, .inl (tc.1, 2160, .inl c_partly))]) (fun v1 => [(0, .ref h_), (3, .int p3)]) (fun v1 => []) (fun v1 => ?_) (fun k6 hk6 => ?_)
  · refine j_iload C d12_isLess_12 1 rfl ?_
    refine j_join 29 (fun v2 => [(h_, .inr (12, [g_rules, g_lefts, g_sizes, g_rights, g_edits, g_pastRules, g_pastLefts, g_pastSizes, g_pastRights, g_levels, g_codes, g_details, g_asked, g_isWorked, g_empties, g_firsts, g_follows, g_isKept, g_keptEmpties, g_keptFirsts, g_keptFollows, g_strings, g_longs, .ref h_trial, .int c_trialLong, g_foundName, g_foundToken, g_foundP, g_foundQ, g_moved, g_movedSizes, g_synchronizing, g_input, g_inputLong, g_stack, g_stackParents, g_top, g_at, g_steps, g_traced, g_traces, g_nodes, g_made, g_nodeSymbols, g_nodeParents, g_errors, g_errorAts, g_errorKinds, g_errorTops, .ref h_weights, g_bests, g_bestLongs, .ref h_partly, g_partlyLongs, g_repaired, g_repairedLong])), (h_trial, .inl (tc.1, 40, .inl c_trial)), (h_weights, .inl (tc.1, 8, .inl c_weights)), (h_partly, .inl (tc.1, 2160, .inl c_partly))]) (fun v2 => []) (fun v2 => [.int v2]) (fun v2 => ?_) (fun k3 hk3 => ?_)
    · refine j_gz (fun hz => ?_)
      exact j_zret0 C hz d12_isLess_29
    · refine j_join 24 (fun v4 => [(h_, .inr (12, [g_rules, g_lefts, g_sizes, g_rights, g_edits, g_pastRules, g_pastLefts, g_pastSizes, g_pastRights, g_levels, g_codes, g_details, g_asked, g_isWorked, g_empties, g_firsts, g_follows, g_isKept, g_keptEmpties, g_keptFirsts, g_keptFollows, g_strings, g_longs, .ref h_trial, .int c_trialLong, g_foundName, g_foundToken, g_foundP, g_foundQ, g_moved, g_movedSizes, g_synchronizing, g_input, g_inputLong, g_stack, g_stackParents, g_top, g_at, g_steps, g_traced, g_traces, g_nodes, g_made, g_nodeSymbols, g_nodeParents, g_errors, g_errorAts, g_errorKinds, g_errorTops, .ref h_weights, g_bests, g_bestLongs, .ref h_partly, g_partlyLongs, g_repaired, g_repairedLong])), (h_trial, .inl (tc.1, 40, .inl c_trial)), (h_weights, .inl (tc.1, 8, .inl c_weights)), (h_partly, .inl (tc.1, 2160, .inl c_partly))]) (fun v4 => []) (fun v4 => []) (fun v4 => ?_) (fun k5 hk5 => ?_)
      · refine j_const C d12_isLess_24 ?_
        refine j_goto C d12_isLess_25 ?_
        exact hk3 _
      · refine j_if_lt C d12_isLess_13 ?_ ?_
        · exact j_sub [] rfl (hk5 _)
        · refine j_aload C d12_isLess_16 0 rfl ?_
          refine j_get C d12_isLess_17 fl12_212 0 rfl rfl ?_
          refine j_iload C d12_isLess_20 1 rfl ?_
          refine j_icmp_ge C d12_isLess_21 ?_ ?_
          · refine j_const C d12_isLess_28 ?_
            exact j_sub [] rfl (hk3 _)
          · exact j_sub [] rfl (hk5 _)
  · refine j_if_lt C d12_isLess_1 ?_ ?_
    · exact j_sub [0, 3] rfl (hk6 _)
    · refine j_aload C d12_isLess_4 0 rfl ?_
      refine j_get C d12_isLess_5 fl12_212 0 rfl rfl ?_
      refine j_iload C d12_isLess_8 3 rfl ?_
      refine j_icmp_eq C d12_isLess_9 ?_ ?_
      · refine j_aload C d12_isLess_30 0 rfl ?_
        refine j_aload C d12_isLess_31 0 rfl ?_
        refine j_get C d12_isLess_32 fl12_58 0 rfl rfl ?_
        refine j_const C d12_isLess_35 ?_
        refine j_aload C d12_isLess_36 0 rfl ?_
        refine j_get C d12_isLess_37 fl12_212 0 rfl rfl ?_
        refine j_callVI0 (As := [.ref h_trial, .int 0, .int c_trialLong]) C d12_isLess_40 mv12_338 (kX12_weighs_trial _ _ tc N h_ h_trial h_weights g_rules g_lefts g_sizes g_rights g_edits g_pastRules g_pastLefts g_pastSizes g_pastRights g_levels g_codes g_details g_asked g_isWorked g_empties g_firsts g_follows g_isKept g_keptEmpties g_keptFirsts g_keptFollows g_strings g_longs (.int c_trialLong) g_foundName g_foundToken g_foundP g_foundQ g_moved g_movedSizes g_synchronizing g_input g_inputLong g_stack g_stackParents g_top g_at g_steps g_traced g_traces g_nodes g_made g_nodeSymbols g_nodeParents g_errors g_errorAts g_errorKinds g_errorTops g_bests g_bestLongs (.ref h_partly) g_partlyLongs g_repaired g_repairedLong c_trial c_weights 0 c_trialLong) ⟨rfl, rfl, Nat.le_of_ble_eq_true rfl, Nat.le_of_ble_eq_true rfl⟩ rfl 0 rfl [0, 1, 2] rfl rfl rfl (Nat.le_of_ble_eq_true rfl) (fun x7 => ?_)
        refine j_istore C d12_isLess_43 (by decide) (lv' := [(4, .int x7), (0, .ref h_), (1, .ref h_partly), (2, .int p2), (3, .int p3)]) rfl ?_
        refine j_aload C d12_isLess_45 1 rfl ?_
        refine j_aload C d12_isLess_46 2 rfl ?_
        refine j_iload C d12_isLess_47 3 rfl ?_
        refine j_iload C d12_isLess_48 4 rfl ?_
        refine j_callVI0 (As := [.ref h_partly, .int p2, .int p3]) C d12_isLess_49 mv12_338 (kX12_weighs_partly _ _ tc N h_ h_weights h_partly g_rules g_lefts g_sizes g_rights g_edits g_pastRules g_pastLefts g_pastSizes g_pastRights g_levels g_codes g_details g_asked g_isWorked g_empties g_firsts g_follows g_isKept g_keptEmpties g_keptFirsts g_keptFollows g_strings g_longs (.ref h_trial) (.int c_trialLong) g_foundName g_foundToken g_foundP g_foundQ g_moved g_movedSizes g_synchronizing g_input g_inputLong g_stack g_stackParents g_top g_at g_steps g_traced g_traces g_nodes g_made g_nodeSymbols g_nodeParents g_errors g_errorAts g_errorKinds g_errorTops g_bests g_bestLongs g_partlyLongs g_repaired g_repairedLong c_weights c_partly p2 p3) ⟨rfl, rfl, Nat.le_of_ble_eq_true rfl, Nat.le_of_ble_eq_true rfl⟩ rfl 0 rfl [0, 2, 3] rfl rfl rfl (Nat.le_of_ble_eq_true rfl) (fun x8 => ?_)
        refine j_istore C d12_isLess_52 (by decide) (lv' := [(5, .int x8), (4, .int x7), (0, .ref h_), (1, .ref h_partly), (2, .int p2), (3, .int p3)]) rfl ?_
        refine j_iload C d12_isLess_54 1 rfl ?_
        refine j_iload C d12_isLess_56 0 rfl ?_
        refine j_icmp_eq C d12_isLess_58 ?_ ?_
        · refine j_const C d12_isLess_74 ?_
          refine j_istore C d12_isLess_75 (by decide) (lv' := [(6, .int 0), (5, .int x8), (4, .int x7), (0, .ref h_), (1, .ref h_partly), (2, .int p2), (3, .int p3)]) rfl ?_
          refine j_join 105 (fun v9 => [(h_, .inr (12, [g_rules, g_lefts, g_sizes, g_rights, g_edits, g_pastRules, g_pastLefts, g_pastSizes, g_pastRights, g_levels, g_codes, g_details, g_asked, g_isWorked, g_empties, g_firsts, g_follows, g_isKept, g_keptEmpties, g_keptFirsts, g_keptFollows, g_strings, g_longs, .ref h_trial, .int c_trialLong, g_foundName, g_foundToken, g_foundP, g_foundQ, g_moved, g_movedSizes, g_synchronizing, g_input, g_inputLong, g_stack, g_stackParents, g_top, g_at, g_steps, g_traced, g_traces, g_nodes, g_made, g_nodeSymbols, g_nodeParents, g_errors, g_errorAts, g_errorKinds, g_errorTops, .ref h_weights, g_bests, g_bestLongs, .ref h_partly, g_partlyLongs, g_repaired, g_repairedLong])), (h_trial, .inl (tc.1, 40, .inl c_trial)), (h_weights, .inl (tc.1, 8, .inl c_weights)), (h_partly, .inl (tc.1, 2160, .inl c_partly))]) (fun v9 => [(0, .ref h_), (1, .ref h_partly), (2, .int p2), (3, .int p3), (6, .int v9)]) (fun v9 => []) (fun v9 => ?_) (fun k16 hk16 => ?_)
          · refine j_iload C d12_isLess_105 4 rfl ?_
            refine j_iload C d12_isLess_107 3 rfl ?_
            refine j_join 132 (fun v10 => [(h_, .inr (12, [g_rules, g_lefts, g_sizes, g_rights, g_edits, g_pastRules, g_pastLefts, g_pastSizes, g_pastRights, g_levels, g_codes, g_details, g_asked, g_isWorked, g_empties, g_firsts, g_follows, g_isKept, g_keptEmpties, g_keptFirsts, g_keptFollows, g_strings, g_longs, .ref h_trial, .int c_trialLong, g_foundName, g_foundToken, g_foundP, g_foundQ, g_moved, g_movedSizes, g_synchronizing, g_input, g_inputLong, g_stack, g_stackParents, g_top, g_at, g_steps, g_traced, g_traces, g_nodes, g_made, g_nodeSymbols, g_nodeParents, g_errors, g_errorAts, g_errorKinds, g_errorTops, .ref h_weights, g_bests, g_bestLongs, .ref h_partly, g_partlyLongs, g_repaired, g_repairedLong])), (h_trial, .inl (tc.1, 40, .inl c_trial)), (h_weights, .inl (tc.1, 8, .inl c_weights)), (h_partly, .inl (tc.1, 2160, .inl c_partly))]) (fun v10 => []) (fun v10 => [.int v10]) (fun v10 => ?_) (fun k11 hk11 => ?_)
            · refine j_gz (fun hz => ?_)
              exact j_zret0 C hz d12_isLess_132
            · refine j_join 131 (fun v12 => [(h_, .inr (12, [g_rules, g_lefts, g_sizes, g_rights, g_edits, g_pastRules, g_pastLefts, g_pastSizes, g_pastRights, g_levels, g_codes, g_details, g_asked, g_isWorked, g_empties, g_firsts, g_follows, g_isKept, g_keptEmpties, g_keptFirsts, g_keptFollows, g_strings, g_longs, .ref h_trial, .int c_trialLong, g_foundName, g_foundToken, g_foundP, g_foundQ, g_moved, g_movedSizes, g_synchronizing, g_input, g_inputLong, g_stack, g_stackParents, g_top, g_at, g_steps, g_traced, g_traces, g_nodes, g_made, g_nodeSymbols, g_nodeParents, g_errors, g_errorAts, g_errorKinds, g_errorTops, .ref h_weights, g_bests, g_bestLongs, .ref h_partly, g_partlyLongs, g_repaired, g_repairedLong])), (h_trial, .inl (tc.1, 40, .inl c_trial)), (h_weights, .inl (tc.1, 8, .inl c_weights)), (h_partly, .inl (tc.1, 2160, .inl c_partly))]) (fun v12 => []) (fun v12 => []) (fun v12 => ?_) (fun k13 hk13 => ?_)
              · refine j_const C d12_isLess_131 ?_
                exact hk11 _
              · refine j_icmp_ge C d12_isLess_108 ?_ ?_
                · exact j_sub [] rfl (hk13 _)
                · refine j_aload C d12_isLess_111 0 rfl ?_
                  refine j_get C d12_isLess_112 fl12_58 0 rfl rfl ?_
                  refine j_iload C d12_isLess_115 4 rfl ?_
                  refine j_iald C d12_isLess_117 1 rfl (fun x14 => ?_)
                  refine j_aload C d12_isLess_118 1 rfl ?_
                  refine j_iload C d12_isLess_119 2 rfl ?_
                  refine j_iload C d12_isLess_120 4 rfl ?_
                  refine j_iadd C d12_isLess_122 ?_
                  refine j_iald C d12_isLess_123 3 rfl (fun x15 => ?_)
                  refine j_icmp_ge C d12_isLess_124 ?_ ?_
                  · exact j_sub [] rfl (hk13 _)
                  · refine j_const C d12_isLess_127 ?_
                    refine j_goto C d12_isLess_128 ?_
                    exact j_sub [] rfl (hk11 _)
          · exact j_sub [3, 4, 5, 6, 0] rfl (j_loop (fun v17 => [(h_, .inr (12, [g_rules, g_lefts, g_sizes, g_rights, g_edits, g_pastRules, g_pastLefts, g_pastSizes, g_pastRights, g_levels, g_codes, g_details, g_asked, g_isWorked, g_empties, g_firsts, g_follows, g_isKept, g_keptEmpties, g_keptFirsts, g_keptFollows, g_strings, g_longs, .ref h_trial, .int c_trialLong, g_foundName, g_foundToken, g_foundP, g_foundQ, g_moved, g_movedSizes, g_synchronizing, g_input, g_inputLong, g_stack, g_stackParents, g_top, g_at, g_steps, g_traced, g_traces, g_nodes, g_made, g_nodeSymbols, g_nodeParents, g_errors, g_errorAts, g_errorKinds, g_errorTops, .ref h_weights, g_bests, g_bestLongs, .ref h_partly, g_partlyLongs, g_repaired, g_repairedLong])), (h_trial, .inl (tc.1, 40, .inl c_trial)), (h_weights, .inl (tc.1, 8, .inl c_weights)), (h_partly, .inl (tc.1, 2160, .inl c_partly))]) (fun v17 => [(0, .ref h_), (1, .ref h_partly), (2, .int p2), (3, .int p3), (6, .int v17)]) (fun rc18 hrc18 v17 => wX12_isLess_partly_77 C h_ h_trial h_weights h_partly g_rules g_lefts g_sizes g_rights g_edits g_pastRules g_pastLefts g_pastSizes g_pastRights g_levels g_codes g_details g_asked g_isWorked g_empties g_firsts g_follows g_isKept g_keptEmpties g_keptFirsts g_keptFollows g_strings g_longs g_foundName g_foundToken g_foundP g_foundQ g_moved g_movedSizes g_synchronizing g_input g_inputLong g_stack g_stackParents g_top g_at g_steps g_traced g_traces g_nodes g_made g_nodeSymbols g_nodeParents g_errors g_errorAts g_errorKinds g_errorTops g_bests g_bestLongs g_partlyLongs g_repaired g_repairedLong p2 p3 c_trial c_trialLong c_weights c_partly k16 hk16 rc18 hrc18 v17) N _)
        · refine j_iload C d12_isLess_61 1 rfl ?_
          refine j_iload C d12_isLess_63 0 rfl ?_
          refine j_join 73 (fun v23 => [(h_, .inr (12, [g_rules, g_lefts, g_sizes, g_rights, g_edits, g_pastRules, g_pastLefts, g_pastSizes, g_pastRights, g_levels, g_codes, g_details, g_asked, g_isWorked, g_empties, g_firsts, g_follows, g_isKept, g_keptEmpties, g_keptFirsts, g_keptFollows, g_strings, g_longs, .ref h_trial, .int c_trialLong, g_foundName, g_foundToken, g_foundP, g_foundQ, g_moved, g_movedSizes, g_synchronizing, g_input, g_inputLong, g_stack, g_stackParents, g_top, g_at, g_steps, g_traced, g_traces, g_nodes, g_made, g_nodeSymbols, g_nodeParents, g_errors, g_errorAts, g_errorKinds, g_errorTops, .ref h_weights, g_bests, g_bestLongs, .ref h_partly, g_partlyLongs, g_repaired, g_repairedLong])), (h_trial, .inl (tc.1, 40, .inl c_trial)), (h_weights, .inl (tc.1, 8, .inl c_weights)), (h_partly, .inl (tc.1, 2160, .inl c_partly))]) (fun v23 => []) (fun v23 => [.int v23]) (fun v23 => ?_) (fun k24 hk24 => ?_)
          · refine j_gz (fun hz => ?_)
            exact j_zret0 C hz d12_isLess_73
          · refine j_icmp_ge C d12_isLess_65 ?_ ?_
            · refine j_const C d12_isLess_72 ?_
              exact j_sub [] rfl (hk24 _)
            · refine j_const C d12_isLess_68 ?_
              refine j_goto C d12_isLess_69 ?_
              exact j_sub [] rfl (hk24 _)
      · exact j_sub [0, 3] rfl (hk6 _)

