theorem d12_setSynchronizing_0 : jdi cX12_setSynchronizing 0 1 1 := Or.inl ⟨1, by decide +kernel⟩
theorem d12_setSynchronizing_1 : jd cX12_setSynchronizing 1 (.invokestatic 153) 3 4 := by decide +kernel
theorem d12_setSynchronizing_4 : jdb cX12_setSynchronizing 4 (.ifCond .eq 14) 14 18 7 := by decide +kernel
theorem d12_setSynchronizing_7 : jdi cX12_setSynchronizing 7 2 8 := Or.inl ⟨2, by decide +kernel⟩
theorem d12_setSynchronizing_8 : jdk cX12_setSynchronizing 8 0 9 := Or.inl ⟨0, by decide +kernel⟩
theorem d12_setSynchronizing_9 : jdk cX12_setSynchronizing 9 511 12 := Or.inr (Or.inr ⟨511, by decide +kernel⟩)
theorem d12_setSynchronizing_12 : jd cX12_setSynchronizing 12 (.invokestatic 119) 3 15 := by decide +kernel
theorem d12_setSynchronizing_15 : jdb cX12_setSynchronizing 15 (.ifCond .ne 5) 5 20 18 := by decide +kernel
theorem d12_setSynchronizing_18 : jdk cX12_setSynchronizing 18 (-1) 19 := Or.inl ⟨(-1), by decide +kernel⟩
theorem d12_setSynchronizing_19 : decode cX12_setSynchronizing 19 = .ok (.ireturn, 1) := by decide +kernel
theorem d12_setSynchronizing_20 : jda cX12_setSynchronizing 20 0 21 := Or.inl ⟨0, by decide +kernel⟩
theorem d12_setSynchronizing_21 : jd cX12_setSynchronizing 21 (.getfield 67) 3 24 := by decide +kernel
theorem d12_setSynchronizing_24 : jdi cX12_setSynchronizing 24 1 25 := Or.inl ⟨1, by decide +kernel⟩
theorem d12_setSynchronizing_25 : jd cX12_setSynchronizing 25 (.iaload) 1 26 := by decide +kernel
theorem d12_setSynchronizing_26 : jds cX12_setSynchronizing 26 3 27 := Or.inl ⟨3, by decide +kernel⟩
theorem d12_setSynchronizing_27 : jda cX12_setSynchronizing 27 0 28 := Or.inl ⟨0, by decide +kernel⟩
theorem d12_setSynchronizing_28 : jd cX12_setSynchronizing 28 (.getfield 67) 3 31 := by decide +kernel
theorem d12_setSynchronizing_31 : jdi cX12_setSynchronizing 31 1 32 := Or.inl ⟨1, by decide +kernel⟩
theorem d12_setSynchronizing_32 : jdi cX12_setSynchronizing 32 2 33 := Or.inl ⟨2, by decide +kernel⟩
theorem d12_setSynchronizing_33 : jd cX12_setSynchronizing 33 (.iastore) 1 34 := by decide +kernel
theorem d12_setSynchronizing_34 : jdi cX12_setSynchronizing 34 3 35 := Or.inl ⟨3, by decide +kernel⟩
theorem d12_setSynchronizing_35 : decode cX12_setSynchronizing 35 = .ok (.ireturn, 1) := by decide +kernel
set_option maxHeartbeats 4000000 in
set_option maxRecDepth 100000 in
theorem kX12_setSynchronizing (l : Launch) (D : va_G) (tc : jTC) (h_ h_synchronizing : Nat) (g_rules g_lefts g_sizes g_rights g_edits g_pastRules g_pastLefts g_pastSizes g_pastRights g_levels g_codes g_details g_asked g_isWorked g_empties g_firsts g_follows g_isKept g_keptEmpties g_keptFirsts g_keptFollows g_strings g_longs g_trial g_trialLong g_foundName g_foundToken g_foundP g_foundQ g_moved g_movedSizes g_input g_inputLong g_stack g_stackParents g_top g_at g_steps g_traced g_traces g_nodes g_made g_nodeSymbols g_nodeParents g_errors g_errorAts g_errorKinds g_errorTops g_weights g_bests g_bestLongs g_partly g_partlyLongs g_repaired g_repairedLong : Value) (c_synchronizing : (Nat → Int32)) (p1 : Int32) (p2 : Int32) : ctI l D tc yX12_setSynchronizing (Cond.code yX12_setSynchronizing cX12_setSynchronizing 4 (some .int) :: jtb) ({ frames := 2, cells := 0, slots := 0, locals := 42 } : Room) [.ref h_, .int p1, .int p2] [(h_, .inr (12, [g_rules, g_lefts, g_sizes, g_rights, g_edits, g_pastRules, g_pastLefts, g_pastSizes, g_pastRights, g_levels, g_codes, g_details, g_asked, g_isWorked, g_empties, g_firsts, g_follows, g_isKept, g_keptEmpties, g_keptFirsts, g_keptFollows, g_strings, g_longs, g_trial, g_trialLong, g_foundName, g_foundToken, g_foundP, g_foundQ, g_moved, g_movedSizes, .ref h_synchronizing, g_input, g_inputLong, g_stack, g_stackParents, g_top, g_at, g_steps, g_traced, g_traces, g_nodes, g_made, g_nodeSymbols, g_nodeParents, g_errors, g_errorAts, g_errorKinds, g_errorTops, g_weights, g_bests, g_bestLongs, g_partly, g_partlyLongs, g_repaired, g_repairedLong])), (h_synchronizing, .inl (tc.1, 8, .inl c_synchronizing))] (fX12_setSynchronizing c_synchronizing p1 p2) (fun (u : (Nat → Int32)) => [(h_, .inr (12, [g_rules, g_lefts, g_sizes, g_rights, g_edits, g_pastRules, g_pastLefts, g_pastSizes, g_pastRights, g_levels, g_codes, g_details, g_asked, g_isWorked, g_empties, g_firsts, g_follows, g_isKept, g_keptEmpties, g_keptFirsts, g_keptFollows, g_strings, g_longs, g_trial, g_trialLong, g_foundName, g_foundToken, g_foundP, g_foundQ, g_moved, g_movedSizes, .ref h_synchronizing, g_input, g_inputLong, g_stack, g_stackParents, g_top, g_at, g_steps, g_traced, g_traces, g_nodes, g_made, g_nodeSymbols, g_nodeParents, g_errors, g_errorAts, g_errorKinds, g_errorTops, g_weights, g_bests, g_bestLongs, g_partly, g_partlyLongs, g_repaired, g_repairedLong])), (h_synchronizing, .inl (tc.1, 8, .inl u))]) := by
  refine ctI_of (lv0 := [(0, .ref h_), (1, .int p1), (2, .int p2)]) (by decide +kernel) (Nat.le_of_ble_eq_true rfl) rfl (fun X C => ?_)
  unfold fX12_setSynchronizing
  refine j_iload C d12_setSynchronizing_0 1 rfl ?_
  refine j_callSI0 (As := [.int p1]) C d12_setSynchronizing_1 ms12_153 (kX12_isName _ _ tc p1) ⟨rfl, rfl, Nat.le_of_ble_eq_true rfl, Nat.le_of_ble_eq_true rfl⟩ rfl [] rfl rfl rfl (Nat.le_of_ble_eq_true rfl) (fun x1 => ?_)
  refine j_join 18 (fun v2 => [(h_, .inr (12, [g_rules, g_lefts, g_sizes, g_rights, g_edits, g_pastRules, g_pastLefts, g_pastSizes, g_pastRights, g_levels, g_codes, g_details, g_asked, g_isWorked, g_empties, g_firsts, g_follows, g_isKept, g_keptEmpties, g_keptFirsts, g_keptFollows, g_strings, g_longs, g_trial, g_trialLong, g_foundName, g_foundToken, g_foundP, g_foundQ, g_moved, g_movedSizes, .ref h_synchronizing, g_input, g_inputLong, g_stack, g_stackParents, g_top, g_at, g_steps, g_traced, g_traces, g_nodes, g_made, g_nodeSymbols, g_nodeParents, g_errors, g_errorAts, g_errorKinds, g_errorTops, g_weights, g_bests, g_bestLongs, g_partly, g_partlyLongs, g_repaired, g_repairedLong])), (h_synchronizing, .inl (tc.1, 8, .inl c_synchronizing))]) (fun v2 => []) (fun v2 => []) (fun v2 => ?_) (fun k3 hk3 => ?_)
  · refine j_const C d12_setSynchronizing_18 ?_
    exact j_iret C d12_setSynchronizing_19 rfl
  · refine j_if_eq C d12_setSynchronizing_4 ?_ ?_
    · exact j_sub [] rfl (hk3 _)
    · refine j_iload C d12_setSynchronizing_7 2 rfl ?_
      refine j_const C d12_setSynchronizing_8 ?_
      refine j_const C d12_setSynchronizing_9 ?_
      refine j_callSI0 (As := [.int p2, .int 0, .int 511]) C d12_setSynchronizing_12 ms12_119 (kX12_in _ _ tc p2 0 511) ⟨rfl, rfl, Nat.le_of_ble_eq_true rfl, Nat.le_of_ble_eq_true rfl⟩ rfl [] rfl rfl rfl (Nat.le_of_ble_eq_true rfl) (fun x4 => ?_)
      refine j_if_ne C d12_setSynchronizing_15 ?_ ?_
      · refine j_aload C d12_setSynchronizing_20 0 rfl ?_
        refine j_get C d12_setSynchronizing_21 fl12_67 0 rfl rfl ?_
        refine j_iload C d12_setSynchronizing_24 1 rfl ?_
        refine j_iald C d12_setSynchronizing_25 1 rfl (fun x5 => ?_)
        refine j_istore C d12_setSynchronizing_26 (by decide) (lv' := [(3, .int x5), (0, .ref h_), (1, .int p1), (2, .int p2)]) rfl ?_
        refine j_aload C d12_setSynchronizing_27 1 rfl ?_
        refine j_get C d12_setSynchronizing_28 fl12_67 0 rfl rfl ?_
        refine j_iload C d12_setSynchronizing_31 2 rfl ?_
        refine j_iload C d12_setSynchronizing_32 3 rfl ?_
        refine j_iast C (fun f6 => [(h_, .inr (12, [g_rules, g_lefts, g_sizes, g_rights, g_edits, g_pastRules, g_pastLefts, g_pastSizes, g_pastRights, g_levels, g_codes, g_details, g_asked, g_isWorked, g_empties, g_firsts, g_follows, g_isKept, g_keptEmpties, g_keptFirsts, g_keptFollows, g_strings, g_longs, g_trial, g_trialLong, g_foundName, g_foundToken, g_foundP, g_foundQ, g_moved, g_movedSizes, .ref h_synchronizing, g_input, g_inputLong, g_stack, g_stackParents, g_top, g_at, g_steps, g_traced, g_traces, g_nodes, g_made, g_nodeSymbols, g_nodeParents, g_errors, g_errorAts, g_errorKinds, g_errorTops, g_weights, g_bests, g_bestLongs, g_partly, g_partlyLongs, g_repaired, g_repairedLong])), (h_synchronizing, .inl (tc.1, 8, .inl f6))]) d12_setSynchronizing_33 1 rfl (fun _ => rfl) (fun f6 => ?_)
        refine j_iload C d12_setSynchronizing_34 0 rfl ?_
        exact j_iret C d12_setSynchronizing_35 rfl
      · exact j_sub [] rfl (hk3 _)

theorem d12_appendInput_0 : jdi cX12_appendInput 0 1 1 := Or.inl ⟨1, by decide +kernel⟩
theorem d12_appendInput_1 : jdb cX12_appendInput 1 (.ifCond .gt 5) 5 6 4 := by decide +kernel
theorem d12_appendInput_4 : jdk cX12_appendInput 4 (-1) 5 := Or.inl ⟨(-1), by decide +kernel⟩
theorem d12_appendInput_5 : decode cX12_appendInput 5 = .ok (.ireturn, 1) := by decide +kernel
theorem d12_appendInput_6 : jdk cX12_appendInput 6 0 7 := Or.inl ⟨0, by decide +kernel⟩
theorem d12_appendInput_7 : jds cX12_appendInput 7 2 8 := Or.inl ⟨2, by decide +kernel⟩
theorem d12_appendInput_8 : jdi cX12_appendInput 8 1 9 := Or.inl ⟨1, by decide +kernel⟩
theorem d12_appendInput_9 : jds cX12_appendInput 9 3 10 := Or.inl ⟨3, by decide +kernel⟩
theorem d12_appendInput_10 : jdi cX12_appendInput 10 3 11 := Or.inl ⟨3, by decide +kernel⟩
theorem d12_appendInput_11 : jdb cX12_appendInput 11 (.ifCond .le 29) 29 40 14 := by decide +kernel
theorem d12_appendInput_14 : jdi cX12_appendInput 14 3 15 := Or.inl ⟨3, by decide +kernel⟩
theorem d12_appendInput_15 : jdk cX12_appendInput 15 10 17 := Or.inr (Or.inl ⟨10, by decide +kernel⟩)
theorem d12_appendInput_17 : jd cX12_appendInput 17 (.irem) 1 18 := by decide +kernel
theorem d12_appendInput_18 : jdk cX12_appendInput 18 1 19 := Or.inl ⟨1, by decide +kernel⟩
theorem d12_appendInput_19 : jdk cX12_appendInput 19 8 21 := Or.inr (Or.inl ⟨8, by decide +kernel⟩)
theorem d12_appendInput_21 : jd cX12_appendInput 21 (.invokestatic 119) 3 24 := by decide +kernel
theorem d12_appendInput_24 : jdb cX12_appendInput 24 (.ifCond .ne 5) 5 29 27 := by decide +kernel
theorem d12_appendInput_27 : jdk cX12_appendInput 27 (-1) 28 := Or.inl ⟨(-1), by decide +kernel⟩
theorem d12_appendInput_28 : decode cX12_appendInput 28 = .ok (.ireturn, 1) := by decide +kernel
theorem d12_appendInput_29 : jd cX12_appendInput 29 (.iinc 2 1) 3 32 := by decide +kernel
theorem d12_appendInput_32 : jdi cX12_appendInput 32 3 33 := Or.inl ⟨3, by decide +kernel⟩
theorem d12_appendInput_33 : jdk cX12_appendInput 33 10 35 := Or.inr (Or.inl ⟨10, by decide +kernel⟩)
theorem d12_appendInput_35 : jd cX12_appendInput 35 (.idiv) 1 36 := by decide +kernel
theorem d12_appendInput_36 : jds cX12_appendInput 36 3 37 := Or.inl ⟨3, by decide +kernel⟩
theorem d12_appendInput_37 : jdb cX12_appendInput 37 (.goto (-27)) (-27) 10 40 := by decide +kernel
theorem d12_appendInput_40 : jda cX12_appendInput 40 0 41 := Or.inl ⟨0, by decide +kernel⟩
theorem d12_appendInput_41 : jd cX12_appendInput 41 (.getfield 287) 3 44 := by decide +kernel
theorem d12_appendInput_44 : jdi cX12_appendInput 44 2 45 := Or.inl ⟨2, by decide +kernel⟩
theorem d12_appendInput_45 : jd cX12_appendInput 45 (.iadd) 1 46 := by decide +kernel
theorem d12_appendInput_46 : jdk cX12_appendInput 46 40 48 := Or.inr (Or.inl ⟨40, by decide +kernel⟩)
theorem d12_appendInput_48 : jdb cX12_appendInput 48 (.if_icmp .le 6) 6 54 51 := by decide +kernel
theorem d12_appendInput_51 : jdk cX12_appendInput 51 (-3) 53 := Or.inr (Or.inl ⟨(-3), by decide +kernel⟩)
theorem d12_appendInput_53 : decode cX12_appendInput 53 = .ok (.ireturn, 1) := by decide +kernel
theorem d12_appendInput_54 : jdi cX12_appendInput 54 1 55 := Or.inl ⟨1, by decide +kernel⟩
theorem d12_appendInput_55 : jds cX12_appendInput 55 3 56 := Or.inl ⟨3, by decide +kernel⟩
theorem d12_appendInput_56 : jdi cX12_appendInput 56 2 57 := Or.inl ⟨2, by decide +kernel⟩
theorem d12_appendInput_57 : jdk cX12_appendInput 57 1 58 := Or.inl ⟨1, by decide +kernel⟩
theorem d12_appendInput_58 : jd cX12_appendInput 58 (.isub) 1 59 := by decide +kernel
theorem d12_appendInput_59 : jds cX12_appendInput 59 4 61 := Or.inr (by decide +kernel)
theorem d12_appendInput_61 : jdi cX12_appendInput 61 4 63 := Or.inr (by decide +kernel)
theorem d12_appendInput_63 : jdb cX12_appendInput 63 (.ifCond .lt 32) 32 95 66 := by decide +kernel
theorem d12_appendInput_66 : jda cX12_appendInput 66 0 67 := Or.inl ⟨0, by decide +kernel⟩
theorem d12_appendInput_67 : jd cX12_appendInput 67 (.getfield 70) 3 70 := by decide +kernel
theorem d12_appendInput_70 : jda cX12_appendInput 70 0 71 := Or.inl ⟨0, by decide +kernel⟩
theorem d12_appendInput_71 : jd cX12_appendInput 71 (.getfield 287) 3 74 := by decide +kernel
theorem d12_appendInput_74 : jdi cX12_appendInput 74 4 76 := Or.inr (by decide +kernel)
theorem d12_appendInput_76 : jd cX12_appendInput 76 (.iadd) 1 77 := by decide +kernel
theorem d12_appendInput_77 : jdi cX12_appendInput 77 3 78 := Or.inl ⟨3, by decide +kernel⟩
theorem d12_appendInput_78 : jdk cX12_appendInput 78 10 80 := Or.inr (Or.inl ⟨10, by decide +kernel⟩)
theorem d12_appendInput_80 : jd cX12_appendInput 80 (.irem) 1 81 := by decide +kernel
theorem d12_appendInput_81 : jdk cX12_appendInput 81 1 82 := Or.inl ⟨1, by decide +kernel⟩
theorem d12_appendInput_82 : jd cX12_appendInput 82 (.isub) 1 83 := by decide +kernel
theorem d12_appendInput_83 : jd cX12_appendInput 83 (.iastore) 1 84 := by decide +kernel
theorem d12_appendInput_84 : jdi cX12_appendInput 84 3 85 := Or.inl ⟨3, by decide +kernel⟩
theorem d12_appendInput_85 : jdk cX12_appendInput 85 10 87 := Or.inr (Or.inl ⟨10, by decide +kernel⟩)
theorem d12_appendInput_87 : jd cX12_appendInput 87 (.idiv) 1 88 := by decide +kernel
theorem d12_appendInput_88 : jds cX12_appendInput 88 3 89 := Or.inl ⟨3, by decide +kernel⟩
theorem d12_appendInput_89 : jd cX12_appendInput 89 (.iinc 4 (-1)) 3 92 := by decide +kernel
theorem d12_appendInput_92 : jdb cX12_appendInput 92 (.goto (-31)) (-31) 61 95 := by decide +kernel
theorem d12_appendInput_95 : jda cX12_appendInput 95 0 96 := Or.inl ⟨0, by decide +kernel⟩
theorem d12_appendInput_96 : jd cX12_appendInput 96 (.dup) 1 97 := by decide +kernel
theorem d12_appendInput_97 : jd cX12_appendInput 97 (.getfield 287) 3 100 := by decide +kernel
theorem d12_appendInput_100 : jdi cX12_appendInput 100 2 101 := Or.inl ⟨2, by decide +kernel⟩
theorem d12_appendInput_101 : jd cX12_appendInput 101 (.iadd) 1 102 := by decide +kernel
theorem d12_appendInput_102 : jd cX12_appendInput 102 (.putfield 287) 3 105 := by decide +kernel
theorem d12_appendInput_105 : jda cX12_appendInput 105 0 106 := Or.inl ⟨0, by decide +kernel⟩
theorem d12_appendInput_106 : jd cX12_appendInput 106 (.getfield 287) 3 109 := by decide +kernel
theorem d12_appendInput_109 : decode cX12_appendInput 109 = .ok (.ireturn, 1) := by decide +kernel
set_option maxHeartbeats 4000000 in
set_option maxRecDepth 100000 in
theorem wX12_appendInput_61 {X : jC} {tc : jTC} (C : jx X cX12_appendInput 5 RX12 (some .int) tc ({ frames := 1, cells := 0, slots := 0, locals := 22 } : Room)) (h_ h_input : Nat) (g_rules g_lefts g_sizes g_rights g_edits g_pastRules g_pastLefts g_pastSizes g_pastRights g_levels g_codes g_details g_asked g_isWorked g_empties g_firsts g_follows g_isKept g_keptEmpties g_keptFirsts g_keptFollows g_strings g_longs g_trial g_trialLong g_foundName g_foundToken g_foundP g_foundQ g_moved g_movedSizes g_synchronizing g_stack g_stackParents g_top g_at g_steps g_traced g_traces g_nodes g_made g_nodeSymbols g_nodeParents g_errors g_errorAts g_errorKinds g_errorTops g_weights g_bests g_bestLongs g_partly g_partlyLongs g_repaired g_repairedLong : Value) (c_inputLong : Int32) (v1 : Int32) (k5 : ((Nat → Int32) → Option (Int32 × (Nat → Int32) × Int32))) (hk5 : ∀ (v13 : (Nat → Int32)), jo X 5 (0, 0) (jQI X (fun (u : (Nat → Int32) × Int32) => [(h_, .inr (12, [g_rules, g_lefts, g_sizes, g_rights, g_edits, g_pastRules, g_pastLefts, g_pastSizes, g_pastRights, g_levels, g_codes, g_details, g_asked, g_isWorked, g_empties, g_firsts, g_follows, g_isKept, g_keptEmpties, g_keptFirsts, g_keptFollows, g_strings, g_longs, g_trial, g_trialLong, g_foundName, g_foundToken, g_foundP, g_foundQ, g_moved, g_movedSizes, g_synchronizing, .ref h_input, .int u.2, g_stack, g_stackParents, g_top, g_at, g_steps, g_traced, g_traces, g_nodes, g_made, g_nodeSymbols, g_nodeParents, g_errors, g_errorAts, g_errorKinds, g_errorTops, g_weights, g_bests, g_bestLongs, g_partly, g_partlyLongs, g_repaired, g_repairedLong])), (h_input, .inl (tc.1, 40, .inl u.1))])) (k5 v13) [(h_, .inr (12, [g_rules, g_lefts, g_sizes, g_rights, g_edits, g_pastRules, g_pastLefts, g_pastSizes, g_pastRights, g_levels, g_codes, g_details, g_asked, g_isWorked, g_empties, g_firsts, g_follows, g_isKept, g_keptEmpties, g_keptFirsts, g_keptFollows, g_strings, g_longs, g_trial, g_trialLong, g_foundName, g_foundToken, g_foundP, g_foundQ, g_moved, g_movedSizes, g_synchronizing, .ref h_input, .int c_inputLong, g_stack, g_stackParents, g_top, g_at, g_steps, g_traced, g_traces, g_nodes, g_made, g_nodeSymbols, g_nodeParents, g_errors, g_errorAts, g_errorKinds, g_errorTops, g_weights, g_bests, g_bestLongs, g_partly, g_partlyLongs, g_repaired, g_repairedLong])), (h_input, .inl (tc.1, 40, .inl v13))] 95 [(0, .ref h_), (2, .int v1)] []) (rc9 : Int32 → Int32 → (Nat → Int32) → Option (Int32 × (Nat → Int32) × Int32)) (hrc9 : ∀ (v6 : Int32) (v7 : Int32) (v8 : (Nat → Int32)), jo X 5 (0, 0) (jQI X (fun (u : (Nat → Int32) × Int32) => [(h_, .inr (12, [g_rules, g_lefts, g_sizes, g_rights, g_edits, g_pastRules, g_pastLefts, g_pastSizes, g_pastRights, g_levels, g_codes, g_details, g_asked, g_isWorked, g_empties, g_firsts, g_follows, g_isKept, g_keptEmpties, g_keptFirsts, g_keptFollows, g_strings, g_longs, g_trial, g_trialLong, g_foundName, g_foundToken, g_foundP, g_foundQ, g_moved, g_movedSizes, g_synchronizing, .ref h_input, .int u.2, g_stack, g_stackParents, g_top, g_at, g_steps, g_traced, g_traces, g_nodes, g_made, g_nodeSymbols, g_nodeParents, g_errors, g_errorAts, g_errorKinds, g_errorTops, g_weights, g_bests, g_bestLongs, g_partly, g_partlyLongs, g_repaired, g_repairedLong])), (h_input, .inl (tc.1, 40, .inl u.1))])) (rc9 v6 v7 v8) [(h_, .inr (12, [g_rules, g_lefts, g_sizes, g_rights, g_edits, g_pastRules, g_pastLefts, g_pastSizes, g_pastRights, g_levels, g_codes, g_details, g_asked, g_isWorked, g_empties, g_firsts, g_follows, g_isKept, g_keptEmpties, g_keptFirsts, g_keptFollows, g_strings, g_longs, g_trial, g_trialLong, g_foundName, g_foundToken, g_foundP, g_foundQ, g_moved, g_movedSizes, g_synchronizing, .ref h_input, .int c_inputLong, g_stack, g_stackParents, g_top, g_at, g_steps, g_traced, g_traces, g_nodes, g_made, g_nodeSymbols, g_nodeParents, g_errors, g_errorAts, g_errorKinds, g_errorTops, g_weights, g_bests, g_bestLongs, g_partly, g_partlyLongs, g_repaired, g_repairedLong])), (h_input, .inl (tc.1, 40, .inl v8))] 61 [(0, .ref h_), (2, .int v1), (3, .int v6), (4, .int v7)] []) (v6 : Int32) (v7 : Int32) (v8 : (Nat → Int32)) : jo X 5 (0, 0) (jQI X (fun (u : (Nat → Int32) × Int32) => [(h_, .inr (12, [g_rules, g_lefts, g_sizes, g_rights, g_edits, g_pastRules, g_pastLefts, g_pastSizes, g_pastRights, g_levels, g_codes, g_details, g_asked, g_isWorked, g_empties, g_firsts, g_follows, g_isKept, g_keptEmpties, g_keptFirsts, g_keptFollows, g_strings, g_longs, g_trial, g_trialLong, g_foundName, g_foundToken, g_foundP, g_foundQ, g_moved, g_movedSizes, g_synchronizing, .ref h_input, .int u.2, g_stack, g_stackParents, g_top, g_at, g_steps, g_traced, g_traces, g_nodes, g_made, g_nodeSymbols, g_nodeParents, g_errors, g_errorAts, g_errorKinds, g_errorTops, g_weights, g_bests, g_bestLongs, g_partly, g_partlyLongs, g_repaired, g_repairedLong])), (h_input, .inl (tc.1, 40, .inl u.1))])) (bX12_appendInput_61 c_inputLong k5 rc9 v6 v7 v8) [(h_, .inr (12, [g_rules, g_lefts, g_sizes, g_rights, g_edits, g_pastRules, g_pastLefts, g_pastSizes, g_pastRights, g_levels, g_codes, g_details, g_asked, g_isWorked, g_empties, g_firsts, g_follows, g_isKept, g_keptEmpties, g_keptFirsts, g_keptFollows, g_strings, g_longs, g_trial, g_trialLong, g_foundName, g_foundToken, g_foundP, g_foundQ, g_moved, g_movedSizes, g_synchronizing, .ref h_input, .int c_inputLong, g_stack, g_stackParents, g_top, g_at, g_steps, g_traced, g_traces, g_nodes, g_made, g_nodeSymbols, g_nodeParents, g_errors, g_errorAts, g_errorKinds, g_errorTops, g_weights, g_bests, g_bestLongs, g_partly, g_partlyLongs, g_repaired, g_repairedLong])), (h_input, .inl (tc.1, 40, .inl v8))] 61 [(0, .ref h_), (2, .int v1), (3, .int v6), (4, .int v7)] [] := by
  unfold bX12_appendInput_61
  refine j_iload C d12_appendInput_61 3 rfl ?_
  refine j_if_lt C d12_appendInput_63 ?_ ?_
  · exact j_sub [0, 1] rfl (hk5 _)
  · refine j_aload C d12_appendInput_66 0 rfl ?_
    refine j_get C d12_appendInput_67 fl12_70 0 rfl rfl ?_
    refine j_aload C d12_appendInput_70 0 rfl ?_
    refine j_get C d12_appendInput_71 fl12_287 0 rfl rfl ?_
    refine j_iload C d12_appendInput_74 3 rfl ?_
    refine j_iadd C d12_appendInput_76 ?_
    refine j_iload C d12_appendInput_77 2 rfl ?_
    refine j_const C d12_appendInput_78 ?_
    refine j_irem C d12_appendInput_80 (by decide) ?_
    refine j_const C d12_appendInput_81 ?_
    refine j_isub C d12_appendInput_82 ?_
    refine j_iast C (fun f10 => [(h_, .inr (12, [g_rules, g_lefts, g_sizes, g_rights, g_edits, g_pastRules, g_pastLefts, g_pastSizes, g_pastRights, g_levels, g_codes, g_details, g_asked, g_isWorked, g_empties, g_firsts, g_follows, g_isKept, g_keptEmpties, g_keptFirsts, g_keptFollows, g_strings, g_longs, g_trial, g_trialLong, g_foundName, g_foundToken, g_foundP, g_foundQ, g_moved, g_movedSizes, g_synchronizing, .ref h_input, .int c_inputLong, g_stack, g_stackParents, g_top, g_at, g_steps, g_traced, g_traces, g_nodes, g_made, g_nodeSymbols, g_nodeParents, g_errors, g_errorAts, g_errorKinds, g_errorTops, g_weights, g_bests, g_bestLongs, g_partly, g_partlyLongs, g_repaired, g_repairedLong])), (h_input, .inl (tc.1, 40, .inl f10))]) d12_appendInput_83 1 rfl (fun _ => rfl) (fun f10 => ?_)
    refine j_iload C d12_appendInput_84 2 rfl ?_
    refine j_const C d12_appendInput_85 ?_
    refine j_idiv C d12_appendInput_87 (by decide) ?_
    refine j_leti (fun x11 => ?_)
    refine j_istore C d12_appendInput_88 (by decide) (lv' := [(3, .int x11), (0, .ref h_), (2, .int v1), (4, .int v7)]) rfl ?_
    refine j_iincN C (fun x12 => [(4, .int x12), (3, .int x11), (0, .ref h_), (2, .int v1)]) d12_appendInput_89 3 rfl (by decide +kernel) (by decide) (fun _ => rfl) (fun x12 => ?_)
    refine j_goto C d12_appendInput_92 ?_
    exact j_sub [2, 3, 1, 0] rfl (hrc9 _ _ _)

set_option maxHeartbeats 4000000 in
set_option maxRecDepth 100000 in
theorem wX12_appendInput_10 {X : jC} {tc : jTC} (C : jx X cX12_appendInput 5 RX12 (some .int) tc ({ frames := 1, cells := 0, slots := 0, locals := 22 } : Room)) (h_ h_input : Nat) (g_rules g_lefts g_sizes g_rights g_edits g_pastRules g_pastLefts g_pastSizes g_pastRights g_levels g_codes g_details g_asked g_isWorked g_empties g_firsts g_follows g_isKept g_keptEmpties g_keptFirsts g_keptFollows g_strings g_longs g_trial g_trialLong g_foundName g_foundToken g_foundP g_foundQ g_moved g_movedSizes g_synchronizing g_stack g_stackParents g_top g_at g_steps g_traced g_traces g_nodes g_made g_nodeSymbols g_nodeParents g_errors g_errorAts g_errorKinds g_errorTops g_weights g_bests g_bestLongs g_partly g_partlyLongs g_repaired g_repairedLong : Value) (p1 : Int32) (c_input : (Nat → Int32)) (c_inputLong : Int32) (k14 : (Int32 → Option (Int32 × (Nat → Int32) × Int32))) (hk14 : ∀ (v21 : Int32), jo X 5 (0, 0) (jQI X (fun (u : (Nat → Int32) × Int32) => [(h_, .inr (12, [g_rules, g_lefts, g_sizes, g_rights, g_edits, g_pastRules, g_pastLefts, g_pastSizes, g_pastRights, g_levels, g_codes, g_details, g_asked, g_isWorked, g_empties, g_firsts, g_follows, g_isKept, g_keptEmpties, g_keptFirsts, g_keptFollows, g_strings, g_longs, g_trial, g_trialLong, g_foundName, g_foundToken, g_foundP, g_foundQ, g_moved, g_movedSizes, g_synchronizing, .ref h_input, .int u.2, g_stack, g_stackParents, g_top, g_at, g_steps, g_traced, g_traces, g_nodes, g_made, g_nodeSymbols, g_nodeParents, g_errors, g_errorAts, g_errorKinds, g_errorTops, g_weights, g_bests, g_bestLongs, g_partly, g_partlyLongs, g_repaired, g_repairedLong])), (h_input, .inl (tc.1, 40, .inl u.1))])) (k14 v21) [(h_, .inr (12, [g_rules, g_lefts, g_sizes, g_rights, g_edits, g_pastRules, g_pastLefts, g_pastSizes, g_pastRights, g_levels, g_codes, g_details, g_asked, g_isWorked, g_empties, g_firsts, g_follows, g_isKept, g_keptEmpties, g_keptFirsts, g_keptFollows, g_strings, g_longs, g_trial, g_trialLong, g_foundName, g_foundToken, g_foundP, g_foundQ, g_moved, g_movedSizes, g_synchronizing, .ref h_input, .int c_inputLong, g_stack, g_stackParents, g_top, g_at, g_steps, g_traced, g_traces, g_nodes, g_made, g_nodeSymbols, g_nodeParents, g_errors, g_errorAts, g_errorKinds, g_errorTops, g_weights, g_bests, g_bestLongs, g_partly, g_partlyLongs, g_repaired, g_repairedLong])), (h_input, .inl (tc.1, 40, .inl c_input))] 40 [(0, .ref h_), (1, .int p1), (2, .int v21)] []) (rc17 : Int32 → Int32 → Option (Int32 × (Nat → Int32) × Int32)) (hrc17 : ∀ (v15 : Int32) (v16 : Int32), jo X 5 (0, 0) (jQI X (fun (u : (Nat → Int32) × Int32) => [(h_, .inr (12, [g_rules, g_lefts, g_sizes, g_rights, g_edits, g_pastRules, g_pastLefts, g_pastSizes, g_pastRights, g_levels, g_codes, g_details, g_asked, g_isWorked, g_empties, g_firsts, g_follows, g_isKept, g_keptEmpties, g_keptFirsts, g_keptFollows, g_strings, g_longs, g_trial, g_trialLong, g_foundName, g_foundToken, g_foundP, g_foundQ, g_moved, g_movedSizes, g_synchronizing, .ref h_input, .int u.2, g_stack, g_stackParents, g_top, g_at, g_steps, g_traced, g_traces, g_nodes, g_made, g_nodeSymbols, g_nodeParents, g_errors, g_errorAts, g_errorKinds, g_errorTops, g_weights, g_bests, g_bestLongs, g_partly, g_partlyLongs, g_repaired, g_repairedLong])), (h_input, .inl (tc.1, 40, .inl u.1))])) (rc17 v15 v16) [(h_, .inr (12, [g_rules, g_lefts, g_sizes, g_rights, g_edits, g_pastRules, g_pastLefts, g_pastSizes, g_pastRights, g_levels, g_codes, g_details, g_asked, g_isWorked, g_empties, g_firsts, g_follows, g_isKept, g_keptEmpties, g_keptFirsts, g_keptFollows, g_strings, g_longs, g_trial, g_trialLong, g_foundName, g_foundToken, g_foundP, g_foundQ, g_moved, g_movedSizes, g_synchronizing, .ref h_input, .int c_inputLong, g_stack, g_stackParents, g_top, g_at, g_steps, g_traced, g_traces, g_nodes, g_made, g_nodeSymbols, g_nodeParents, g_errors, g_errorAts, g_errorKinds, g_errorTops, g_weights, g_bests, g_bestLongs, g_partly, g_partlyLongs, g_repaired, g_repairedLong])), (h_input, .inl (tc.1, 40, .inl c_input))] 10 [(0, .ref h_), (1, .int p1), (2, .int v15), (3, .int v16)] []) (v15 : Int32) (v16 : Int32) : jo X 5 (0, 0) (jQI X (fun (u : (Nat → Int32) × Int32) => [(h_, .inr (12, [g_rules, g_lefts, g_sizes, g_rights, g_edits, g_pastRules, g_pastLefts, g_pastSizes, g_pastRights, g_levels, g_codes, g_details, g_asked, g_isWorked, g_empties, g_firsts, g_follows, g_isKept, g_keptEmpties, g_keptFirsts, g_keptFollows, g_strings, g_longs, g_trial, g_trialLong, g_foundName, g_foundToken, g_foundP, g_foundQ, g_moved, g_movedSizes, g_synchronizing, .ref h_input, .int u.2, g_stack, g_stackParents, g_top, g_at, g_steps, g_traced, g_traces, g_nodes, g_made, g_nodeSymbols, g_nodeParents, g_errors, g_errorAts, g_errorKinds, g_errorTops, g_weights, g_bests, g_bestLongs, g_partly, g_partlyLongs, g_repaired, g_repairedLong])), (h_input, .inl (tc.1, 40, .inl u.1))])) (bX12_appendInput_10 c_input c_inputLong k14 rc17 v15 v16) [(h_, .inr (12, [g_rules, g_lefts, g_sizes, g_rights, g_edits, g_pastRules, g_pastLefts, g_pastSizes, g_pastRights, g_levels, g_codes, g_details, g_asked, g_isWorked, g_empties, g_firsts, g_follows, g_isKept, g_keptEmpties, g_keptFirsts, g_keptFollows, g_strings, g_longs, g_trial, g_trialLong, g_foundName, g_foundToken, g_foundP, g_foundQ, g_moved, g_movedSizes, g_synchronizing, .ref h_input, .int c_inputLong, g_stack, g_stackParents, g_top, g_at, g_steps, g_traced, g_traces, g_nodes, g_made, g_nodeSymbols, g_nodeParents, g_errors, g_errorAts, g_errorKinds, g_errorTops, g_weights, g_bests, g_bestLongs, g_partly, g_partlyLongs, g_repaired, g_repairedLong])), (h_input, .inl (tc.1, 40, .inl c_input))] 10 [(0, .ref h_), (1, .int p1), (2, .int v15), (3, .int v16)] [] := by
  unfold bX12_appendInput_10
  refine j_iload C d12_appendInput_10 3 rfl ?_
  refine j_if_le C d12_appendInput_11 ?_ ?_
  · exact j_sub [0, 1, 2] rfl (hk14 _)
  · refine j_iload C d12_appendInput_14 3 rfl ?_
    refine j_const C d12_appendInput_15 ?_
    refine j_irem C d12_appendInput_17 (by decide) ?_
    refine j_const C d12_appendInput_18 ?_
    refine j_const C d12_appendInput_19 ?_
    refine j_callSI0 (As := [.int (v16 - v16 / (10 : Int32) * (10 : Int32)), .int 1, .int 8]) C d12_appendInput_21 ms12_119 (kX12_in _ _ tc (v16 - v16 / (10 : Int32) * (10 : Int32)) 1 8) ⟨rfl, rfl, Nat.le_of_ble_eq_true rfl, Nat.le_of_ble_eq_true rfl⟩ rfl [] rfl rfl rfl (Nat.le_of_ble_eq_true rfl) (fun x18 => ?_)
    refine j_if_ne C d12_appendInput_24 ?_ ?_
    · refine j_iincN C (fun x19 => [(2, .int x19), (0, .ref h_), (1, .int p1), (3, .int v16)]) d12_appendInput_29 2 rfl (by decide +kernel) (by decide) (fun _ => rfl) (fun x19 => ?_)
      refine j_iload C d12_appendInput_32 3 rfl ?_
      refine j_const C d12_appendInput_33 ?_
      refine j_idiv C d12_appendInput_35 (by decide) ?_
      refine j_leti (fun x20 => ?_)
      refine j_istore C d12_appendInput_36 (by decide) (lv' := [(3, .int x20), (2, .int x19), (0, .ref h_), (1, .int p1)]) rfl ?_
      refine j_goto C d12_appendInput_37 ?_
      exact j_sub [2, 3, 1, 0] rfl (hrc17 _ _)
    · refine j_const C d12_appendInput_27 ?_
      exact j_iret C d12_appendInput_28 rfl

set_option maxHeartbeats 4000000 in
set_option maxRecDepth 100000 in
theorem kX12_appendInput (l : Launch) (D : va_G) (tc : jTC) (N : Nat) (h_ h_input : Nat) (g_rules g_lefts g_sizes g_rights g_edits g_pastRules g_pastLefts g_pastSizes g_pastRights g_levels g_codes g_details g_asked g_isWorked g_empties g_firsts g_follows g_isKept g_keptEmpties g_keptFirsts g_keptFollows g_strings g_longs g_trial g_trialLong g_foundName g_foundToken g_foundP g_foundQ g_moved g_movedSizes g_synchronizing g_stack g_stackParents g_top g_at g_steps g_traced g_traces g_nodes g_made g_nodeSymbols g_nodeParents g_errors g_errorAts g_errorKinds g_errorTops g_weights g_bests g_bestLongs g_partly g_partlyLongs g_repaired g_repairedLong : Value) (c_input : (Nat → Int32)) (c_inputLong : Int32) (p1 : Int32) : ctI l D tc yX12_appendInput (Cond.code yX12_appendInput cX12_appendInput 5 (some .int) :: jtb) ({ frames := 1, cells := 0, slots := 0, locals := 22 } : Room) [.ref h_, .int p1] [(h_, .inr (12, [g_rules, g_lefts, g_sizes, g_rights, g_edits, g_pastRules, g_pastLefts, g_pastSizes, g_pastRights, g_levels, g_codes, g_details, g_asked, g_isWorked, g_empties, g_firsts, g_follows, g_isKept, g_keptEmpties, g_keptFirsts, g_keptFollows, g_strings, g_longs, g_trial, g_trialLong, g_foundName, g_foundToken, g_foundP, g_foundQ, g_moved, g_movedSizes, g_synchronizing, .ref h_input, .int c_inputLong, g_stack, g_stackParents, g_top, g_at, g_steps, g_traced, g_traces, g_nodes, g_made, g_nodeSymbols, g_nodeParents, g_errors, g_errorAts, g_errorKinds, g_errorTops, g_weights, g_bests, g_bestLongs, g_partly, g_partlyLongs, g_repaired, g_repairedLong])), (h_input, .inl (tc.1, 40, .inl c_input))] (fX12_appendInput N c_input c_inputLong p1) (fun (u : (Nat → Int32) × Int32) => [(h_, .inr (12, [g_rules, g_lefts, g_sizes, g_rights, g_edits, g_pastRules, g_pastLefts, g_pastSizes, g_pastRights, g_levels, g_codes, g_details, g_asked, g_isWorked, g_empties, g_firsts, g_follows, g_isKept, g_keptEmpties, g_keptFirsts, g_keptFollows, g_strings, g_longs, g_trial, g_trialLong, g_foundName, g_foundToken, g_foundP, g_foundQ, g_moved, g_movedSizes, g_synchronizing, .ref h_input, .int u.2, g_stack, g_stackParents, g_top, g_at, g_steps, g_traced, g_traces, g_nodes, g_made, g_nodeSymbols, g_nodeParents, g_errors, g_errorAts, g_errorKinds, g_errorTops, g_weights, g_bests, g_bestLongs, g_partly, g_partlyLongs, g_repaired, g_repairedLong])), (h_input, .inl (tc.1, 40, .inl u.1))]) := by
  refine ctI_of (lv0 := [(0, .ref h_), (1, .int p1)]) (by decide +kernel) (Nat.le_of_ble_eq_true rfl) rfl (fun X C => ?_)
  unfold fX12_appendInput
  refine j_iload C d12_appendInput_0 1 rfl ?_
  refine j_if_gt C d12_appendInput_1 ?_ ?_
  · refine j_const C d12_appendInput_6 ?_
    refine j_istore C d12_appendInput_7 (by decide) (lv' := [(2, .int 0), (0, .ref h_), (1, .int p1)]) rfl ?_
    refine j_iload C d12_appendInput_8 2 rfl ?_
    refine j_istore C d12_appendInput_9 (by decide) (lv' := [(3, .int p1), (2, .int 0), (0, .ref h_), (1, .int p1)]) rfl ?_
    refine j_join 40 (fun v1 => [(h_, .inr (12, [g_rules, g_lefts, g_sizes, g_rights, g_edits, g_pastRules, g_pastLefts, g_pastSizes, g_pastRights, g_levels, g_codes, g_details, g_asked, g_isWorked, g_empties, g_firsts, g_follows, g_isKept, g_keptEmpties, g_keptFirsts, g_keptFollows, g_strings, g_longs, g_trial, g_trialLong, g_foundName, g_foundToken, g_foundP, g_foundQ, g_moved, g_movedSizes, g_synchronizing, .ref h_input, .int c_inputLong, g_stack, g_stackParents, g_top, g_at, g_steps, g_traced, g_traces, g_nodes, g_made, g_nodeSymbols, g_nodeParents, g_errors, g_errorAts, g_errorKinds, g_errorTops, g_weights, g_bests, g_bestLongs, g_partly, g_partlyLongs, g_repaired, g_repairedLong])), (h_input, .inl (tc.1, 40, .inl c_input))]) (fun v1 => [(0, .ref h_), (1, .int p1), (2, .int v1)]) (fun v1 => []) (fun v1 => ?_) (fun k14 hk14 => ?_)
    · refine j_aload C d12_appendInput_40 0 rfl ?_
      refine j_get C d12_appendInput_41 fl12_287 0 rfl rfl ?_
      refine j_iload C d12_appendInput_44 2 rfl ?_
      refine j_iadd C d12_appendInput_45 ?_
      refine j_const C d12_appendInput_46 ?_
      refine j_icmp_le C d12_appendInput_48 ?_ ?_
      · refine j_iload C d12_appendInput_54 1 rfl ?_
        refine j_istore C d12_appendInput_55 (by decide) (lv' := [(3, .int p1), (0, .ref h_), (1, .int p1), (2, .int v1)]) rfl ?_
        refine j_iload C d12_appendInput_56 3 rfl ?_
        refine j_const C d12_appendInput_57 ?_
        refine j_isub C d12_appendInput_58 ?_
        refine j_leti (fun x2 => ?_)
        refine j_istore C d12_appendInput_59 (by decide) (lv' := [(4, .int x2), (3, .int p1), (0, .ref h_), (1, .int p1), (2, .int v1)]) rfl ?_
        refine j_join 95 (fun v3 => [(h_, .inr (12, [g_rules, g_lefts, g_sizes, g_rights, g_edits, g_pastRules, g_pastLefts, g_pastSizes, g_pastRights, g_levels, g_codes, g_details, g_asked, g_isWorked, g_empties, g_firsts, g_follows, g_isKept, g_keptEmpties, g_keptFirsts, g_keptFollows, g_strings, g_longs, g_trial, g_trialLong, g_foundName, g_foundToken, g_foundP, g_foundQ, g_moved, g_movedSizes, g_synchronizing, .ref h_input, .int c_inputLong, g_stack, g_stackParents, g_top, g_at, g_steps, g_traced, g_traces, g_nodes, g_made, g_nodeSymbols, g_nodeParents, g_errors, g_errorAts, g_errorKinds, g_errorTops, g_weights, g_bests, g_bestLongs, g_partly, g_partlyLongs, g_repaired, g_repairedLong])), (h_input, .inl (tc.1, 40, .inl v3))]) (fun v3 => [(0, .ref h_), (2, .int v1)]) (fun v3 => []) (fun v3 => ?_) (fun k5 hk5 => ?_)
        · refine j_aload C d12_appendInput_95 0 rfl ?_
          refine j_dup C d12_appendInput_96 rfl ?_
          refine j_get C d12_appendInput_97 fl12_287 0 rfl rfl ?_
          refine j_iload C d12_appendInput_100 1 rfl ?_
          refine j_iadd C d12_appendInput_101 ?_
          refine j_leti (fun x4 => ?_)
          refine j_putq C d12_appendInput_102 fq12_287 0 rfl rfl rfl (Nat.le_of_ble_eq_true rfl) (ws' := [(h_, .inr (12, [g_rules, g_lefts, g_sizes, g_rights, g_edits, g_pastRules, g_pastLefts, g_pastSizes, g_pastRights, g_levels, g_codes, g_details, g_asked, g_isWorked, g_empties, g_firsts, g_follows, g_isKept, g_keptEmpties, g_keptFirsts, g_keptFollows, g_strings, g_longs, g_trial, g_trialLong, g_foundName, g_foundToken, g_foundP, g_foundQ, g_moved, g_movedSizes, g_synchronizing, .ref h_input, .int x4, g_stack, g_stackParents, g_top, g_at, g_steps, g_traced, g_traces, g_nodes, g_made, g_nodeSymbols, g_nodeParents, g_errors, g_errorAts, g_errorKinds, g_errorTops, g_weights, g_bests, g_bestLongs, g_partly, g_partlyLongs, g_repaired, g_repairedLong])), (h_input, .inl (tc.1, 40, .inl v3))]) rfl ?_
          refine j_aload C d12_appendInput_105 0 rfl ?_
          refine j_get C d12_appendInput_106 fl12_287 0 rfl rfl ?_
          exact j_iret C d12_appendInput_109 rfl
        · exact j_sub [2, 4, 1, 0] rfl (j_loop3 (fun v6 v7 v8 => [(h_, .inr (12, [g_rules, g_lefts, g_sizes, g_rights, g_edits, g_pastRules, g_pastLefts, g_pastSizes, g_pastRights, g_levels, g_codes, g_details, g_asked, g_isWorked, g_empties, g_firsts, g_follows, g_isKept, g_keptEmpties, g_keptFirsts, g_keptFollows, g_strings, g_longs, g_trial, g_trialLong, g_foundName, g_foundToken, g_foundP, g_foundQ, g_moved, g_movedSizes, g_synchronizing, .ref h_input, .int c_inputLong, g_stack, g_stackParents, g_top, g_at, g_steps, g_traced, g_traces, g_nodes, g_made, g_nodeSymbols, g_nodeParents, g_errors, g_errorAts, g_errorKinds, g_errorTops, g_weights, g_bests, g_bestLongs, g_partly, g_partlyLongs, g_repaired, g_repairedLong])), (h_input, .inl (tc.1, 40, .inl v8))]) (fun v6 v7 v8 => [(0, .ref h_), (2, .int v1), (3, .int v6), (4, .int v7)]) (fun rc9 hrc9 v6 v7 v8 => wX12_appendInput_61 C h_ h_input g_rules g_lefts g_sizes g_rights g_edits g_pastRules g_pastLefts g_pastSizes g_pastRights g_levels g_codes g_details g_asked g_isWorked g_empties g_firsts g_follows g_isKept g_keptEmpties g_keptFirsts g_keptFollows g_strings g_longs g_trial g_trialLong g_foundName g_foundToken g_foundP g_foundQ g_moved g_movedSizes g_synchronizing g_stack g_stackParents g_top g_at g_steps g_traced g_traces g_nodes g_made g_nodeSymbols g_nodeParents g_errors g_errorAts g_errorKinds g_errorTops g_weights g_bests g_bestLongs g_partly g_partlyLongs g_repaired g_repairedLong c_inputLong v1 k5 hk5 rc9 hrc9 v6 v7 v8) N _ _ _)
      · refine j_const C d12_appendInput_51 ?_
        exact j_iret C d12_appendInput_53 rfl
    · exact j_sub [2, 3, 1, 0] rfl (j_loop2 (fun v15 v16 => [(h_, .inr (12, [g_rules, g_lefts, g_sizes, g_rights, g_edits, g_pastRules, g_pastLefts, g_pastSizes, g_pastRights, g_levels, g_codes, g_details, g_asked, g_isWorked, g_empties, g_firsts, g_follows, g_isKept, g_keptEmpties, g_keptFirsts, g_keptFollows, g_strings, g_longs, g_trial, g_trialLong, g_foundName, g_foundToken, g_foundP, g_foundQ, g_moved, g_movedSizes, g_synchronizing, .ref h_input, .int c_inputLong, g_stack, g_stackParents, g_top, g_at, g_steps, g_traced, g_traces, g_nodes, g_made, g_nodeSymbols, g_nodeParents, g_errors, g_errorAts, g_errorKinds, g_errorTops, g_weights, g_bests, g_bestLongs, g_partly, g_partlyLongs, g_repaired, g_repairedLong])), (h_input, .inl (tc.1, 40, .inl c_input))]) (fun v15 v16 => [(0, .ref h_), (1, .int p1), (2, .int v15), (3, .int v16)]) (fun rc17 hrc17 v15 v16 => wX12_appendInput_10 C h_ h_input g_rules g_lefts g_sizes g_rights g_edits g_pastRules g_pastLefts g_pastSizes g_pastRights g_levels g_codes g_details g_asked g_isWorked g_empties g_firsts g_follows g_isKept g_keptEmpties g_keptFirsts g_keptFollows g_strings g_longs g_trial g_trialLong g_foundName g_foundToken g_foundP g_foundQ g_moved g_movedSizes g_synchronizing g_stack g_stackParents g_top g_at g_steps g_traced g_traces g_nodes g_made g_nodeSymbols g_nodeParents g_errors g_errorAts g_errorKinds g_errorTops g_weights g_bests g_bestLongs g_partly g_partlyLongs g_repaired g_repairedLong p1 c_input c_inputLong k14 hk14 rc17 hrc17 v15 v16) N _ _)
  · refine j_const C d12_appendInput_4 ?_
    exact j_iret C d12_appendInput_5 rfl

theorem d12_clearInput_0 : jda cX12_clearInput 0 0 1 := Or.inl ⟨0, by decide +kernel⟩
theorem d12_clearInput_1 : jd cX12_clearInput 1 (.getfield 287) 3 4 := by decide +kernel
theorem d12_clearInput_4 : jds cX12_clearInput 4 1 5 := Or.inl ⟨1, by decide +kernel⟩
theorem d12_clearInput_5 : jda cX12_clearInput 5 0 6 := Or.inl ⟨0, by decide +kernel⟩
theorem d12_clearInput_6 : jdk cX12_clearInput 6 0 7 := Or.inl ⟨0, by decide +kernel⟩
theorem d12_clearInput_7 : jd cX12_clearInput 7 (.putfield 287) 3 10 := by decide +kernel
theorem d12_clearInput_10 : jdi cX12_clearInput 10 1 11 := Or.inl ⟨1, by decide +kernel⟩
theorem d12_clearInput_11 : decode cX12_clearInput 11 = .ok (.ireturn, 1) := by decide +kernel
set_option maxHeartbeats 4000000 in
set_option maxRecDepth 100000 in
theorem kX12_clearInput (l : Launch) (D : va_G) (tc : jTC) (h_ : Nat) (g_rules g_lefts g_sizes g_rights g_edits g_pastRules g_pastLefts g_pastSizes g_pastRights g_levels g_codes g_details g_asked g_isWorked g_empties g_firsts g_follows g_isKept g_keptEmpties g_keptFirsts g_keptFollows g_strings g_longs g_trial g_trialLong g_foundName g_foundToken g_foundP g_foundQ g_moved g_movedSizes g_synchronizing g_input g_stack g_stackParents g_top g_at g_steps g_traced g_traces g_nodes g_made g_nodeSymbols g_nodeParents g_errors g_errorAts g_errorKinds g_errorTops g_weights g_bests g_bestLongs g_partly g_partlyLongs g_repaired g_repairedLong : Value) (c_inputLong : Int32) : ctI l D tc yX12_clearInput (Cond.code yX12_clearInput cX12_clearInput 2 (some .int) :: jtb) ({ frames := 0, cells := 0, slots := 0, locals := 0 } : Room) [.ref h_] [(h_, .inr (12, [g_rules, g_lefts, g_sizes, g_rights, g_edits, g_pastRules, g_pastLefts, g_pastSizes, g_pastRights, g_levels, g_codes, g_details, g_asked, g_isWorked, g_empties, g_firsts, g_follows, g_isKept, g_keptEmpties, g_keptFirsts, g_keptFollows, g_strings, g_longs, g_trial, g_trialLong, g_foundName, g_foundToken, g_foundP, g_foundQ, g_moved, g_movedSizes, g_synchronizing, g_input, .int c_inputLong, g_stack, g_stackParents, g_top, g_at, g_steps, g_traced, g_traces, g_nodes, g_made, g_nodeSymbols, g_nodeParents, g_errors, g_errorAts, g_errorKinds, g_errorTops, g_weights, g_bests, g_bestLongs, g_partly, g_partlyLongs, g_repaired, g_repairedLong]))] (fX12_clearInput c_inputLong) (fun (u : Int32) => [(h_, .inr (12, [g_rules, g_lefts, g_sizes, g_rights, g_edits, g_pastRules, g_pastLefts, g_pastSizes, g_pastRights, g_levels, g_codes, g_details, g_asked, g_isWorked, g_empties, g_firsts, g_follows, g_isKept, g_keptEmpties, g_keptFirsts, g_keptFollows, g_strings, g_longs, g_trial, g_trialLong, g_foundName, g_foundToken, g_foundP, g_foundQ, g_moved, g_movedSizes, g_synchronizing, g_input, .int u, g_stack, g_stackParents, g_top, g_at, g_steps, g_traced, g_traces, g_nodes, g_made, g_nodeSymbols, g_nodeParents, g_errors, g_errorAts, g_errorKinds, g_errorTops, g_weights, g_bests, g_bestLongs, g_partly, g_partlyLongs, g_repaired, g_repairedLong]))]) := by
  refine ctI_of (lv0 := [(0, .ref h_)]) (by decide +kernel) (Nat.le_of_ble_eq_true rfl) rfl (fun X C => ?_)
  unfold fX12_clearInput
  refine j_aload C d12_clearInput_0 0 rfl ?_
  refine j_get C d12_clearInput_1 fl12_287 0 rfl rfl ?_
  refine j_istore C d12_clearInput_4 (by decide) (lv' := [(1, .int c_inputLong), (0, .ref h_)]) rfl ?_
  refine j_aload C d12_clearInput_5 1 rfl ?_
  refine j_const C d12_clearInput_6 ?_
  refine j_putq C d12_clearInput_7 fq12_287 0 rfl rfl rfl (Nat.le_of_ble_eq_true rfl) (ws' := [(h_, .inr (12, [g_rules, g_lefts, g_sizes, g_rights, g_edits, g_pastRules, g_pastLefts, g_pastSizes, g_pastRights, g_levels, g_codes, g_details, g_asked, g_isWorked, g_empties, g_firsts, g_follows, g_isKept, g_keptEmpties, g_keptFirsts, g_keptFollows, g_strings, g_longs, g_trial, g_trialLong, g_foundName, g_foundToken, g_foundP, g_foundQ, g_moved, g_movedSizes, g_synchronizing, g_input, .int 0, g_stack, g_stackParents, g_top, g_at, g_steps, g_traced, g_traces, g_nodes, g_made, g_nodeSymbols, g_nodeParents, g_errors, g_errorAts, g_errorKinds, g_errorTops, g_weights, g_bests, g_bestLongs, g_partly, g_partlyLongs, g_repaired, g_repairedLong]))]) rfl ?_
  refine j_iload C d12_clearInput_10 0 rfl ?_
  exact j_iret C d12_clearInput_11 rfl

theorem d12_inputTerminal_0 : jdi cX12_inputTerminal 0 1 1 := Or.inl ⟨1, by decide +kernel⟩
theorem d12_inputTerminal_1 : jdk cX12_inputTerminal 1 0 2 := Or.inl ⟨0, by decide +kernel⟩
theorem d12_inputTerminal_2 : jda cX12_inputTerminal 2 0 3 := Or.inl ⟨0, by decide +kernel⟩
theorem d12_inputTerminal_3 : jd cX12_inputTerminal 3 (.getfield 287) 3 6 := by decide +kernel
theorem d12_inputTerminal_6 : jdk cX12_inputTerminal 6 1 7 := Or.inl ⟨1, by decide +kernel⟩
theorem d12_inputTerminal_7 : jd cX12_inputTerminal 7 (.isub) 1 8 := by decide +kernel
theorem d12_inputTerminal_8 : jd cX12_inputTerminal 8 (.invokestatic 119) 3 11 := by decide +kernel
theorem d12_inputTerminal_11 : jdb cX12_inputTerminal 11 (.ifCond .eq 12) 12 23 14 := by decide +kernel
theorem d12_inputTerminal_14 : jda cX12_inputTerminal 14 0 15 := Or.inl ⟨0, by decide +kernel⟩
theorem d12_inputTerminal_15 : jd cX12_inputTerminal 15 (.getfield 70) 3 18 := by decide +kernel
theorem d12_inputTerminal_18 : jdi cX12_inputTerminal 18 1 19 := Or.inl ⟨1, by decide +kernel⟩
theorem d12_inputTerminal_19 : jd cX12_inputTerminal 19 (.iaload) 1 20 := by decide +kernel
theorem d12_inputTerminal_20 : jdb cX12_inputTerminal 20 (.goto 5) 5 25 23 := by decide +kernel
theorem d12_inputTerminal_23 : jdk cX12_inputTerminal 23 (-2) 25 := Or.inr (Or.inl ⟨(-2), by decide +kernel⟩)
theorem d12_inputTerminal_25 : decode cX12_inputTerminal 25 = .ok (.ireturn, 1) := by decide +kernel
set_option maxHeartbeats 4000000 in
set_option maxRecDepth 100000 in
theorem kX12_inputTerminal (l : Launch) (D : va_G) (tc : jTC) (h_ h_input : Nat) (g_rules g_lefts g_sizes g_rights g_edits g_pastRules g_pastLefts g_pastSizes g_pastRights g_levels g_codes g_details g_asked g_isWorked g_empties g_firsts g_follows g_isKept g_keptEmpties g_keptFirsts g_keptFollows g_strings g_longs g_trial g_trialLong g_foundName g_foundToken g_foundP g_foundQ g_moved g_movedSizes g_synchronizing g_stack g_stackParents g_top g_at g_steps g_traced g_traces g_nodes g_made g_nodeSymbols g_nodeParents g_errors g_errorAts g_errorKinds g_errorTops g_weights g_bests g_bestLongs g_partly g_partlyLongs g_repaired g_repairedLong : Value) (c_input : (Nat → Int32)) (c_inputLong : Int32) (p1 : Int32) : ctI0 l D tc yX12_inputTerminal (Cond.code yX12_inputTerminal cX12_inputTerminal 2 (some .int) :: jtb) ({ frames := 1, cells := 0, slots := 0, locals := 22 } : Room) [.ref h_, .int p1] [(h_, .inr (12, [g_rules, g_lefts, g_sizes, g_rights, g_edits, g_pastRules, g_pastLefts, g_pastSizes, g_pastRights, g_levels, g_codes, g_details, g_asked, g_isWorked, g_empties, g_firsts, g_follows, g_isKept, g_keptEmpties, g_keptFirsts, g_keptFollows, g_strings, g_longs, g_trial, g_trialLong, g_foundName, g_foundToken, g_foundP, g_foundQ, g_moved, g_movedSizes, g_synchronizing, .ref h_input, .int c_inputLong, g_stack, g_stackParents, g_top, g_at, g_steps, g_traced, g_traces, g_nodes, g_made, g_nodeSymbols, g_nodeParents, g_errors, g_errorAts, g_errorKinds, g_errorTops, g_weights, g_bests, g_bestLongs, g_partly, g_partlyLongs, g_repaired, g_repairedLong])), (h_input, .inl (tc.1, 40, .inl c_input))] (fX12_inputTerminal c_input c_inputLong p1) := by
  refine ctI0_of (lv0 := [(0, .ref h_), (1, .int p1)]) (by decide +kernel) (Nat.le_of_ble_eq_true rfl) rfl (fun X C => ?_)
  unfold fX12_inputTerminal
  refine j_iload C d12_inputTerminal_0 1 rfl ?_
  refine j_const C d12_inputTerminal_1 ?_
  refine j_aload C d12_inputTerminal_2 0 rfl ?_
  refine j_get C d12_inputTerminal_3 fl12_287 0 rfl rfl ?_
  refine j_const C d12_inputTerminal_6 ?_
  refine j_isub C d12_inputTerminal_7 ?_
  refine j_callSI0 (As := [.int p1, .int 0, .int (c_inputLong - (1 : Int32))]) C d12_inputTerminal_8 ms12_119 (kX12_in _ _ tc p1 0 (c_inputLong - (1 : Int32))) ⟨rfl, rfl, Nat.le_of_ble_eq_true rfl, Nat.le_of_ble_eq_true rfl⟩ rfl [] rfl rfl rfl (Nat.le_of_ble_eq_true rfl) (fun x1 => ?_)
  refine j_join 25 (fun v2 => [(h_, .inr (12, [g_rules, g_lefts, g_sizes, g_rights, g_edits, g_pastRules, g_pastLefts, g_pastSizes, g_pastRights, g_levels, g_codes, g_details, g_asked, g_isWorked, g_empties, g_firsts, g_follows, g_isKept, g_keptEmpties, g_keptFirsts, g_keptFollows, g_strings, g_longs, g_trial, g_trialLong, g_foundName, g_foundToken, g_foundP, g_foundQ, g_moved, g_movedSizes, g_synchronizing, .ref h_input, .int c_inputLong, g_stack, g_stackParents, g_top, g_at, g_steps, g_traced, g_traces, g_nodes, g_made, g_nodeSymbols, g_nodeParents, g_errors, g_errorAts, g_errorKinds, g_errorTops, g_weights, g_bests, g_bestLongs, g_partly, g_partlyLongs, g_repaired, g_repairedLong])), (h_input, .inl (tc.1, 40, .inl c_input))]) (fun v2 => []) (fun v2 => [.int v2]) (fun v2 => ?_) (fun k3 hk3 => ?_)
  · exact j_iret0 C d12_inputTerminal_25
  · refine j_if_eq C d12_inputTerminal_11 ?_ ?_
    · refine j_const C d12_inputTerminal_23 ?_
      exact j_sub [] rfl (hk3 _)
    · refine j_aload C d12_inputTerminal_14 0 rfl ?_
      refine j_get C d12_inputTerminal_15 fl12_70 0 rfl rfl ?_
      refine j_iload C d12_inputTerminal_18 1 rfl ?_
      refine j_iald C d12_inputTerminal_19 1 rfl (fun x4 => ?_)
      refine j_goto C d12_inputTerminal_20 ?_
      exact j_sub [] rfl (hk3 _)

theorem d12_starts_0 : jda cX12_starts 0 0 1 := Or.inl ⟨0, by decide +kernel⟩
theorem d12_starts_1 : jd cX12_starts 1 (.invokevirtual 126) 3 4 := by decide +kernel
theorem d12_starts_4 : jda cX12_starts 4 0 5 := Or.inl ⟨0, by decide +kernel⟩
theorem d12_starts_5 : jdk cX12_starts 5 1 6 := Or.inl ⟨1, by decide +kernel⟩
theorem d12_starts_6 : jd cX12_starts 6 (.putfield 290) 3 9 := by decide +kernel
theorem d12_starts_9 : jda cX12_starts 9 0 10 := Or.inl ⟨0, by decide +kernel⟩
theorem d12_starts_10 : jd cX12_starts 10 (.getfield 73) 3 13 := by decide +kernel
theorem d12_starts_13 : jdk cX12_starts 13 0 14 := Or.inl ⟨0, by decide +kernel⟩
theorem d12_starts_14 : jdk cX12_starts 14 10 16 := Or.inr (Or.inl ⟨10, by decide +kernel⟩)
theorem d12_starts_16 : jd cX12_starts 16 (.iastore) 1 17 := by decide +kernel
theorem d12_starts_17 : jda cX12_starts 17 0 18 := Or.inl ⟨0, by decide +kernel⟩
theorem d12_starts_18 : jd cX12_starts 18 (.getfield 76) 3 21 := by decide +kernel
theorem d12_starts_21 : jdk cX12_starts 21 0 22 := Or.inl ⟨0, by decide +kernel⟩
theorem d12_starts_22 : jdk cX12_starts 22 (-1) 23 := Or.inl ⟨(-1), by decide +kernel⟩
theorem d12_starts_23 : jd cX12_starts 23 (.iastore) 1 24 := by decide +kernel
theorem d12_starts_24 : jda cX12_starts 24 0 25 := Or.inl ⟨0, by decide +kernel⟩
theorem d12_starts_25 : jdk cX12_starts 25 0 26 := Or.inl ⟨0, by decide +kernel⟩
theorem d12_starts_26 : jd cX12_starts 26 (.putfield 293) 3 29 := by decide +kernel
theorem d12_starts_29 : jda cX12_starts 29 0 30 := Or.inl ⟨0, by decide +kernel⟩
theorem d12_starts_30 : jdk cX12_starts 30 0 31 := Or.inl ⟨0, by decide +kernel⟩
theorem d12_starts_31 : jd cX12_starts 31 (.putfield 296) 3 34 := by decide +kernel
theorem d12_starts_34 : jda cX12_starts 34 0 35 := Or.inl ⟨0, by decide +kernel⟩
theorem d12_starts_35 : jdk cX12_starts 35 0 36 := Or.inl ⟨0, by decide +kernel⟩
theorem d12_starts_36 : jd cX12_starts 36 (.putfield 299) 3 39 := by decide +kernel
theorem d12_starts_39 : jda cX12_starts 39 0 40 := Or.inl ⟨0, by decide +kernel⟩
theorem d12_starts_40 : jdk cX12_starts 40 0 41 := Or.inl ⟨0, by decide +kernel⟩
theorem d12_starts_41 : jd cX12_starts 41 (.putfield 302) 3 44 := by decide +kernel
theorem d12_starts_44 : jda cX12_starts 44 0 45 := Or.inl ⟨0, by decide +kernel⟩
theorem d12_starts_45 : jdk cX12_starts 45 0 46 := Or.inl ⟨0, by decide +kernel⟩
theorem d12_starts_46 : jd cX12_starts 46 (.putfield 305) 3 49 := by decide +kernel
theorem d12_starts_49 : decode cX12_starts 49 = .ok (.return_, 1) := by decide +kernel
set_option maxHeartbeats 4000000 in
set_option maxRecDepth 100000 in
theorem kX12_starts (l : Launch) (D : va_G) (tc : jTC) (N : Nat) (h_ h_lefts h_sizes h_rights h_firsts h_follows h_strings h_longs h_trial h_stack h_stackParents : Nat) (g_edits g_pastRules g_pastLefts g_pastSizes g_pastRights g_levels g_codes g_details g_asked g_isKept g_keptEmpties g_keptFirsts g_keptFollows g_foundName g_foundToken g_foundP g_foundQ g_moved g_movedSizes g_synchronizing g_input g_inputLong g_traces g_nodeSymbols g_nodeParents g_errors g_errorAts g_errorKinds g_errorTops g_weights g_bests g_bestLongs g_partly g_partlyLongs g_repaired g_repairedLong : Value) (c_rules : Int32) (c_lefts : (Nat → Int32)) (c_sizes : (Nat → Int32)) (c_rights : (Nat → Int32)) (c_isWorked : Int32) (c_empties : Int32) (c_firsts : (Nat → Int32)) (c_follows : (Nat → Int32)) (c_strings : (Nat → Int32)) (c_longs : (Nat → Int32)) (c_trial : (Nat → Int32)) (c_trialLong : Int32) (c_stack : (Nat → Int32)) (c_stackParents : (Nat → Int32)) (c_top : Int32) (c_at : Int32) (c_steps : Int32) (c_traced : Int32) (c_nodes : Int32) (c_made : Int32) : ctV l D tc yX12_starts (Cond.code yX12_starts cX12_starts 1 none :: jtb) ({ frames := 5, cells := 0, slots := 0, locals := 110 } : Room) [.ref h_] [(h_, .inr (12, [.int c_rules, .ref h_lefts, .ref h_sizes, .ref h_rights, g_edits, g_pastRules, g_pastLefts, g_pastSizes, g_pastRights, g_levels, g_codes, g_details, g_asked, .int c_isWorked, .int c_empties, .ref h_firsts, .ref h_follows, g_isKept, g_keptEmpties, g_keptFirsts, g_keptFollows, .ref h_strings, .ref h_longs, .ref h_trial, .int c_trialLong, g_foundName, g_foundToken, g_foundP, g_foundQ, g_moved, g_movedSizes, g_synchronizing, g_input, g_inputLong, .ref h_stack, .ref h_stackParents, .int c_top, .int c_at, .int c_steps, .int c_traced, g_traces, .int c_nodes, .int c_made, g_nodeSymbols, g_nodeParents, g_errors, g_errorAts, g_errorKinds, g_errorTops, g_weights, g_bests, g_bestLongs, g_partly, g_partlyLongs, g_repaired, g_repairedLong])), (h_lefts, .inl (tc.1, 24, .inl c_lefts)), (h_sizes, .inl (tc.1, 24, .inl c_sizes)), (h_rights, .inl (tc.1, 120, .inl c_rights)), (h_firsts, .inl (tc.1, 8, .inl c_firsts)), (h_follows, .inl (tc.1, 8, .inl c_follows)), (h_strings, .inl (tc.1, 1280, .inl c_strings)), (h_longs, .inl (tc.1, 32, .inl c_longs)), (h_trial, .inl (tc.1, 40, .inl c_trial)), (h_stack, .inl (tc.1, 66, .inl c_stack)), (h_stackParents, .inl (tc.1, 66, .inl c_stackParents))] (fX12_starts N c_rules c_lefts c_sizes c_rights c_isWorked c_empties c_firsts c_follows c_strings c_longs c_trial c_trialLong c_stack c_stackParents c_top c_at c_steps c_traced c_nodes c_made) (fun (u : Int32 × Int32 × (Nat → Int32) × (Nat → Int32) × (Nat → Int32) × (Nat → Int32) × (Nat → Int32) × Int32 × (Nat → Int32) × (Nat → Int32) × Int32 × Int32 × Int32 × Int32 × Int32 × Int32) => [(h_, .inr (12, [.int c_rules, .ref h_lefts, .ref h_sizes, .ref h_rights, g_edits, g_pastRules, g_pastLefts, g_pastSizes, g_pastRights, g_levels, g_codes, g_details, g_asked, .int u.1, .int u.2.1, .ref h_firsts, .ref h_follows, g_isKept, g_keptEmpties, g_keptFirsts, g_keptFollows, .ref h_strings, .ref h_longs, .ref h_trial, .int u.2.2.2.2.2.2.2.1, g_foundName, g_foundToken, g_foundP, g_foundQ, g_moved, g_movedSizes, g_synchronizing, g_input, g_inputLong, .ref h_stack, .ref h_stackParents, .int u.2.2.2.2.2.2.2.2.2.2.1, .int u.2.2.2.2.2.2.2.2.2.2.2.1, .int u.2.2.2.2.2.2.2.2.2.2.2.2.1, .int u.2.2.2.2.2.2.2.2.2.2.2.2.2.1, g_traces, .int u.2.2.2.2.2.2.2.2.2.2.2.2.2.2.1, .int u.2.2.2.2.2.2.2.2.2.2.2.2.2.2.2, g_nodeSymbols, g_nodeParents, g_errors, g_errorAts, g_errorKinds, g_errorTops, g_weights, g_bests, g_bestLongs, g_partly, g_partlyLongs, g_repaired, g_repairedLong])), (h_lefts, .inl (tc.1, 24, .inl c_lefts)), (h_sizes, .inl (tc.1, 24, .inl c_sizes)), (h_rights, .inl (tc.1, 120, .inl c_rights)), (h_firsts, .inl (tc.1, 8, .inl u.2.2.1)), (h_follows, .inl (tc.1, 8, .inl u.2.2.2.1)), (h_strings, .inl (tc.1, 1280, .inl u.2.2.2.2.1)), (h_longs, .inl (tc.1, 32, .inl u.2.2.2.2.2.1)), (h_trial, .inl (tc.1, 40, .inl u.2.2.2.2.2.2.1)), (h_stack, .inl (tc.1, 66, .inl u.2.2.2.2.2.2.2.2.1)), (h_stackParents, .inl (tc.1, 66, .inl u.2.2.2.2.2.2.2.2.2.1))]) := by
  refine ctV_of (lv0 := [(0, .ref h_)]) (by decide +kernel) (Nat.le_of_ble_eq_true rfl) rfl (fun X C => ?_)
  unfold fX12_starts
  refine j_aload C d12_starts_0 0 rfl ?_
  refine j_callVV8 (As := []) C d12_starts_1 mv12_126 (kX12_works _ _ tc N h_ h_lefts h_sizes h_rights h_firsts h_follows h_strings h_longs h_trial g_edits g_pastRules g_pastLefts g_pastSizes g_pastRights g_levels g_codes g_details g_asked g_isKept g_keptEmpties g_keptFirsts g_keptFollows g_foundName g_foundToken g_foundP g_foundQ g_moved g_movedSizes g_synchronizing g_input g_inputLong (.ref h_stack) (.ref h_stackParents) (.int c_top) (.int c_at) (.int c_steps) (.int c_traced) g_traces (.int c_nodes) (.int c_made) g_nodeSymbols g_nodeParents g_errors g_errorAts g_errorKinds g_errorTops g_weights g_bests g_bestLongs g_partly g_partlyLongs g_repaired g_repairedLong c_rules c_lefts c_sizes c_rights c_isWorked c_empties c_firsts c_follows c_strings c_longs c_trial c_trialLong) ⟨rfl, rfl, Nat.le_of_ble_eq_true rfl, Nat.le_of_ble_eq_true rfl⟩ rfl 0 rfl [0, 1, 2, 3, 4, 5, 6, 7, 8] rfl rfl rfl (Nat.le_of_ble_eq_true rfl) (fun o1 o2 o3 o4 o5 o6 o7 o8 => [(h_, .inr (12, [.int c_rules, .ref h_lefts, .ref h_sizes, .ref h_rights, g_edits, g_pastRules, g_pastLefts, g_pastSizes, g_pastRights, g_levels, g_codes, g_details, g_asked, .int o1, .int o2, .ref h_firsts, .ref h_follows, g_isKept, g_keptEmpties, g_keptFirsts, g_keptFollows, .ref h_strings, .ref h_longs, .ref h_trial, .int o8, g_foundName, g_foundToken, g_foundP, g_foundQ, g_moved, g_movedSizes, g_synchronizing, g_input, g_inputLong, .ref h_stack, .ref h_stackParents, .int c_top, .int c_at, .int c_steps, .int c_traced, g_traces, .int c_nodes, .int c_made, g_nodeSymbols, g_nodeParents, g_errors, g_errorAts, g_errorKinds, g_errorTops, g_weights, g_bests, g_bestLongs, g_partly, g_partlyLongs, g_repaired, g_repairedLong])), (h_lefts, .inl (tc.1, 24, .inl c_lefts)), (h_sizes, .inl (tc.1, 24, .inl c_sizes)), (h_rights, .inl (tc.1, 120, .inl c_rights)), (h_firsts, .inl (tc.1, 8, .inl o3)), (h_follows, .inl (tc.1, 8, .inl o4)), (h_strings, .inl (tc.1, 1280, .inl o5)), (h_longs, .inl (tc.1, 32, .inl o6)), (h_trial, .inl (tc.1, 40, .inl o7)), (h_stack, .inl (tc.1, 66, .inl c_stack)), (h_stackParents, .inl (tc.1, 66, .inl c_stackParents))]) [(true, 0), (true, 1), (true, 2), (true, 3), (true, 4), (true, 5), (true, 6), (true, 7), (true, 8), (false, 9), (false, 10)] (fun _ => rfl) (by decide +kernel) (fun o1 o2 o3 o4 o5 o6 o7 o8 => ?_)
  refine j_aload C d12_starts_4 0 rfl ?_
  refine j_const C d12_starts_5 ?_
  refine j_putq C d12_starts_6 fq12_290 0 rfl rfl rfl (Nat.le_of_ble_eq_true rfl) (ws' := [(h_, .inr (12, [.int c_rules, .ref h_lefts, .ref h_sizes, .ref h_rights, g_edits, g_pastRules, g_pastLefts, g_pastSizes, g_pastRights, g_levels, g_codes, g_details, g_asked, .int o1, .int o2, .ref h_firsts, .ref h_follows, g_isKept, g_keptEmpties, g_keptFirsts, g_keptFollows, .ref h_strings, .ref h_longs, .ref h_trial, .int o8, g_foundName, g_foundToken, g_foundP, g_foundQ, g_moved, g_movedSizes, g_synchronizing, g_input, g_inputLong, .ref h_stack, .ref h_stackParents, .int 1, .int c_at, .int c_steps, .int c_traced, g_traces, .int c_nodes, .int c_made, g_nodeSymbols, g_nodeParents, g_errors, g_errorAts, g_errorKinds, g_errorTops, g_weights, g_bests, g_bestLongs, g_partly, g_partlyLongs, g_repaired, g_repairedLong])), (h_lefts, .inl (tc.1, 24, .inl c_lefts)), (h_sizes, .inl (tc.1, 24, .inl c_sizes)), (h_rights, .inl (tc.1, 120, .inl c_rights)), (h_firsts, .inl (tc.1, 8, .inl o3)), (h_follows, .inl (tc.1, 8, .inl o4)), (h_strings, .inl (tc.1, 1280, .inl o5)), (h_longs, .inl (tc.1, 32, .inl o6)), (h_trial, .inl (tc.1, 40, .inl o7)), (h_stack, .inl (tc.1, 66, .inl c_stack)), (h_stackParents, .inl (tc.1, 66, .inl c_stackParents))]) rfl ?_
  refine j_aload C d12_starts_9 0 rfl ?_
  refine j_get C d12_starts_10 fl12_73 0 rfl rfl ?_
  refine j_const C d12_starts_13 ?_
  refine j_const C d12_starts_14 ?_
  refine j_iast C (fun f9 => [(h_, .inr (12, [.int c_rules, .ref h_lefts, .ref h_sizes, .ref h_rights, g_edits, g_pastRules, g_pastLefts, g_pastSizes, g_pastRights, g_levels, g_codes, g_details, g_asked, .int o1, .int o2, .ref h_firsts, .ref h_follows, g_isKept, g_keptEmpties, g_keptFirsts, g_keptFollows, .ref h_strings, .ref h_longs, .ref h_trial, .int o8, g_foundName, g_foundToken, g_foundP, g_foundQ, g_moved, g_movedSizes, g_synchronizing, g_input, g_inputLong, .ref h_stack, .ref h_stackParents, .int 1, .int c_at, .int c_steps, .int c_traced, g_traces, .int c_nodes, .int c_made, g_nodeSymbols, g_nodeParents, g_errors, g_errorAts, g_errorKinds, g_errorTops, g_weights, g_bests, g_bestLongs, g_partly, g_partlyLongs, g_repaired, g_repairedLong])), (h_lefts, .inl (tc.1, 24, .inl c_lefts)), (h_sizes, .inl (tc.1, 24, .inl c_sizes)), (h_rights, .inl (tc.1, 120, .inl c_rights)), (h_firsts, .inl (tc.1, 8, .inl o3)), (h_follows, .inl (tc.1, 8, .inl o4)), (h_strings, .inl (tc.1, 1280, .inl o5)), (h_longs, .inl (tc.1, 32, .inl o6)), (h_trial, .inl (tc.1, 40, .inl o7)), (h_stack, .inl (tc.1, 66, .inl f9)), (h_stackParents, .inl (tc.1, 66, .inl c_stackParents))]) d12_starts_16 9 rfl (fun _ => rfl) (fun f9 => ?_)
  refine j_aload C d12_starts_17 0 rfl ?_
  refine j_get C d12_starts_18 fl12_76 0 rfl rfl ?_
  refine j_const C d12_starts_21 ?_
  refine j_const C d12_starts_22 ?_
  refine j_iast C (fun f10 => [(h_, .inr (12, [.int c_rules, .ref h_lefts, .ref h_sizes, .ref h_rights, g_edits, g_pastRules, g_pastLefts, g_pastSizes, g_pastRights, g_levels, g_codes, g_details, g_asked, .int o1, .int o2, .ref h_firsts, .ref h_follows, g_isKept, g_keptEmpties, g_keptFirsts, g_keptFollows, .ref h_strings, .ref h_longs, .ref h_trial, .int o8, g_foundName, g_foundToken, g_foundP, g_foundQ, g_moved, g_movedSizes, g_synchronizing, g_input, g_inputLong, .ref h_stack, .ref h_stackParents, .int 1, .int c_at, .int c_steps, .int c_traced, g_traces, .int c_nodes, .int c_made, g_nodeSymbols, g_nodeParents, g_errors, g_errorAts, g_errorKinds, g_errorTops, g_weights, g_bests, g_bestLongs, g_partly, g_partlyLongs, g_repaired, g_repairedLong])), (h_lefts, .inl (tc.1, 24, .inl c_lefts)), (h_sizes, .inl (tc.1, 24, .inl c_sizes)), (h_rights, .inl (tc.1, 120, .inl c_rights)), (h_firsts, .inl (tc.1, 8, .inl o3)), (h_follows, .inl (tc.1, 8, .inl o4)), (h_strings, .inl (tc.1, 1280, .inl o5)), (h_longs, .inl (tc.1, 32, .inl o6)), (h_trial, .inl (tc.1, 40, .inl o7)), (h_stack, .inl (tc.1, 66, .inl f9)), (h_stackParents, .inl (tc.1, 66, .inl f10))]) d12_starts_23 10 rfl (fun _ => rfl) (fun f10 => ?_)
  refine j_aload C d12_starts_24 0 rfl ?_
  refine j_const C d12_starts_25 ?_
  refine j_putq C d12_starts_26 fq12_293 0 rfl rfl rfl (Nat.le_of_ble_eq_true rfl) (ws' := [(h_, .inr (12, [.int c_rules, .ref h_lefts, .ref h_sizes, .ref h_rights, g_edits, g_pastRules, g_pastLefts, g_pastSizes, g_pastRights, g_levels, g_codes, g_details, g_asked, .int o1, .int o2, .ref h_firsts, .ref h_follows, g_isKept, g_keptEmpties, g_keptFirsts, g_keptFollows, .ref h_strings, .ref h_longs, .ref h_trial, .int o8, g_foundName, g_foundToken, g_foundP, g_foundQ, g_moved, g_movedSizes, g_synchronizing, g_input, g_inputLong, .ref h_stack, .ref h_stackParents, .int 1, .int 0, .int c_steps, .int c_traced, g_traces, .int c_nodes, .int c_made, g_nodeSymbols, g_nodeParents, g_errors, g_errorAts, g_errorKinds, g_errorTops, g_weights, g_bests, g_bestLongs, g_partly, g_partlyLongs, g_repaired, g_repairedLong])), (h_lefts, .inl (tc.1, 24, .inl c_lefts)), (h_sizes, .inl (tc.1, 24, .inl c_sizes)), (h_rights, .inl (tc.1, 120, .inl c_rights)), (h_firsts, .inl (tc.1, 8, .inl o3)), (h_follows, .inl (tc.1, 8, .inl o4)), (h_strings, .inl (tc.1, 1280, .inl o5)), (h_longs, .inl (tc.1, 32, .inl o6)), (h_trial, .inl (tc.1, 40, .inl o7)), (h_stack, .inl (tc.1, 66, .inl f9)), (h_stackParents, .inl (tc.1, 66, .inl f10))]) rfl ?_
  refine j_aload C d12_starts_29 0 rfl ?_
  refine j_const C d12_starts_30 ?_
  refine j_putq C d12_starts_31 fq12_296 0 rfl rfl rfl (Nat.le_of_ble_eq_true rfl) (ws' := [(h_, .inr (12, [.int c_rules, .ref h_lefts, .ref h_sizes, .ref h_rights, g_edits, g_pastRules, g_pastLefts, g_pastSizes, g_pastRights, g_levels, g_codes, g_details, g_asked, .int o1, .int o2, .ref h_firsts, .ref h_follows, g_isKept, g_keptEmpties, g_keptFirsts, g_keptFollows, .ref h_strings, .ref h_longs, .ref h_trial, .int o8, g_foundName, g_foundToken, g_foundP, g_foundQ, g_moved, g_movedSizes, g_synchronizing, g_input, g_inputLong, .ref h_stack, .ref h_stackParents, .int 1, .int 0, .int 0, .int c_traced, g_traces, .int c_nodes, .int c_made, g_nodeSymbols, g_nodeParents, g_errors, g_errorAts, g_errorKinds, g_errorTops, g_weights, g_bests, g_bestLongs, g_partly, g_partlyLongs, g_repaired, g_repairedLong])), (h_lefts, .inl (tc.1, 24, .inl c_lefts)), (h_sizes, .inl (tc.1, 24, .inl c_sizes)), (h_rights, .inl (tc.1, 120, .inl c_rights)), (h_firsts, .inl (tc.1, 8, .inl o3)), (h_follows, .inl (tc.1, 8, .inl o4)), (h_strings, .inl (tc.1, 1280, .inl o5)), (h_longs, .inl (tc.1, 32, .inl o6)), (h_trial, .inl (tc.1, 40, .inl o7)), (h_stack, .inl (tc.1, 66, .inl f9)), (h_stackParents, .inl (tc.1, 66, .inl f10))]) rfl ?_
  refine j_aload C d12_starts_34 0 rfl ?_
  refine j_const C d12_starts_35 ?_
  refine j_putq C d12_starts_36 fq12_299 0 rfl rfl rfl (Nat.le_of_ble_eq_true rfl) (ws' := [(h_, .inr (12, [.int c_rules, .ref h_lefts, .ref h_sizes, .ref h_rights, g_edits, g_pastRules, g_pastLefts, g_pastSizes, g_pastRights, g_levels, g_codes, g_details, g_asked, .int o1, .int o2, .ref h_firsts, .ref h_follows, g_isKept, g_keptEmpties, g_keptFirsts, g_keptFollows, .ref h_strings, .ref h_longs, .ref h_trial, .int o8, g_foundName, g_foundToken, g_foundP, g_foundQ, g_moved, g_movedSizes, g_synchronizing, g_input, g_inputLong, .ref h_stack, .ref h_stackParents, .int 1, .int 0, .int 0, .int 0, g_traces, .int c_nodes, .int c_made, g_nodeSymbols, g_nodeParents, g_errors, g_errorAts, g_errorKinds, g_errorTops, g_weights, g_bests, g_bestLongs, g_partly, g_partlyLongs, g_repaired, g_repairedLong])), (h_lefts, .inl (tc.1, 24, .inl c_lefts)), (h_sizes, .inl (tc.1, 24, .inl c_sizes)), (h_rights, .inl (tc.1, 120, .inl c_rights)), (h_firsts, .inl (tc.1, 8, .inl o3)), (h_follows, .inl (tc.1, 8, .inl o4)), (h_strings, .inl (tc.1, 1280, .inl o5)), (h_longs, .inl (tc.1, 32, .inl o6)), (h_trial, .inl (tc.1, 40, .inl o7)), (h_stack, .inl (tc.1, 66, .inl f9)), (h_stackParents, .inl (tc.1, 66, .inl f10))]) rfl ?_
  refine j_aload C d12_starts_39 0 rfl ?_
  refine j_const C d12_starts_40 ?_
  refine j_putq C d12_starts_41 fq12_302 0 rfl rfl rfl (Nat.le_of_ble_eq_true rfl) (ws' := [(h_, .inr (12, [.int c_rules, .ref h_lefts, .ref h_sizes, .ref h_rights, g_edits, g_pastRules, g_pastLefts, g_pastSizes, g_pastRights, g_levels, g_codes, g_details, g_asked, .int o1, .int o2, .ref h_firsts, .ref h_follows, g_isKept, g_keptEmpties, g_keptFirsts, g_keptFollows, .ref h_strings, .ref h_longs, .ref h_trial, .int o8, g_foundName, g_foundToken, g_foundP, g_foundQ, g_moved, g_movedSizes, g_synchronizing, g_input, g_inputLong, .ref h_stack, .ref h_stackParents, .int 1, .int 0, .int 0, .int 0, g_traces, .int 0, .int c_made, g_nodeSymbols, g_nodeParents, g_errors, g_errorAts, g_errorKinds, g_errorTops, g_weights, g_bests, g_bestLongs, g_partly, g_partlyLongs, g_repaired, g_repairedLong])), (h_lefts, .inl (tc.1, 24, .inl c_lefts)), (h_sizes, .inl (tc.1, 24, .inl c_sizes)), (h_rights, .inl (tc.1, 120, .inl c_rights)), (h_firsts, .inl (tc.1, 8, .inl o3)), (h_follows, .inl (tc.1, 8, .inl o4)), (h_strings, .inl (tc.1, 1280, .inl o5)), (h_longs, .inl (tc.1, 32, .inl o6)), (h_trial, .inl (tc.1, 40, .inl o7)), (h_stack, .inl (tc.1, 66, .inl f9)), (h_stackParents, .inl (tc.1, 66, .inl f10))]) rfl ?_
  refine j_aload C d12_starts_44 0 rfl ?_
  refine j_const C d12_starts_45 ?_
  refine j_putq C d12_starts_46 fq12_305 0 rfl rfl rfl (Nat.le_of_ble_eq_true rfl) (ws' := [(h_, .inr (12, [.int c_rules, .ref h_lefts, .ref h_sizes, .ref h_rights, g_edits, g_pastRules, g_pastLefts, g_pastSizes, g_pastRights, g_levels, g_codes, g_details, g_asked, .int o1, .int o2, .ref h_firsts, .ref h_follows, g_isKept, g_keptEmpties, g_keptFirsts, g_keptFollows, .ref h_strings, .ref h_longs, .ref h_trial, .int o8, g_foundName, g_foundToken, g_foundP, g_foundQ, g_moved, g_movedSizes, g_synchronizing, g_input, g_inputLong, .ref h_stack, .ref h_stackParents, .int 1, .int 0, .int 0, .int 0, g_traces, .int 0, .int 0, g_nodeSymbols, g_nodeParents, g_errors, g_errorAts, g_errorKinds, g_errorTops, g_weights, g_bests, g_bestLongs, g_partly, g_partlyLongs, g_repaired, g_repairedLong])), (h_lefts, .inl (tc.1, 24, .inl c_lefts)), (h_sizes, .inl (tc.1, 24, .inl c_sizes)), (h_rights, .inl (tc.1, 120, .inl c_rights)), (h_firsts, .inl (tc.1, 8, .inl o3)), (h_follows, .inl (tc.1, 8, .inl o4)), (h_strings, .inl (tc.1, 1280, .inl o5)), (h_longs, .inl (tc.1, 32, .inl o6)), (h_trial, .inl (tc.1, 40, .inl o7)), (h_stack, .inl (tc.1, 66, .inl f9)), (h_stackParents, .inl (tc.1, 66, .inl f10))]) rfl ?_
  exact j_vret C d12_starts_49 rfl

theorem d12_token_0 : jda cX12_token 0 0 1 := Or.inl ⟨0, by decide +kernel⟩
theorem d12_token_1 : jd cX12_token 1 (.getfield 293) 3 4 := by decide +kernel
theorem d12_token_4 : jda cX12_token 4 0 5 := Or.inl ⟨0, by decide +kernel⟩
theorem d12_token_5 : jd cX12_token 5 (.getfield 287) 3 8 := by decide +kernel
theorem d12_token_8 : jdb cX12_token 8 (.if_icmp .ge 15) 15 23 11 := by decide +kernel
theorem d12_token_11 : jda cX12_token 11 0 12 := Or.inl ⟨0, by decide +kernel⟩
theorem d12_token_12 : jd cX12_token 12 (.getfield 70) 3 15 := by decide +kernel
theorem d12_token_15 : jda cX12_token 15 0 16 := Or.inl ⟨0, by decide +kernel⟩
theorem d12_token_16 : jd cX12_token 16 (.getfield 293) 3 19 := by decide +kernel
theorem d12_token_19 : jd cX12_token 19 (.iaload) 1 20 := by decide +kernel
theorem d12_token_20 : jdb cX12_token 20 (.goto 5) 5 25 23 := by decide +kernel
theorem d12_token_23 : jdk cX12_token 23 8 25 := Or.inr (Or.inl ⟨8, by decide +kernel⟩)
theorem d12_token_25 : decode cX12_token 25 = .ok (.ireturn, 1) := by decide +kernel
set_option maxHeartbeats 4000000 in
set_option maxRecDepth 100000 in
theorem kX12_token (l : Launch) (D : va_G) (tc : jTC) (h_ h_input : Nat) (g_rules g_lefts g_sizes g_rights g_edits g_pastRules g_pastLefts g_pastSizes g_pastRights g_levels g_codes g_details g_asked g_isWorked g_empties g_firsts g_follows g_isKept g_keptEmpties g_keptFirsts g_keptFollows g_strings g_longs g_trial g_trialLong g_foundName g_foundToken g_foundP g_foundQ g_moved g_movedSizes g_synchronizing g_stack g_stackParents g_top g_steps g_traced g_traces g_nodes g_made g_nodeSymbols g_nodeParents g_errors g_errorAts g_errorKinds g_errorTops g_weights g_bests g_bestLongs g_partly g_partlyLongs g_repaired g_repairedLong : Value) (c_input : (Nat → Int32)) (c_inputLong : Int32) (c_at : Int32) : ctI0 l D tc yX12_token (Cond.code yX12_token cX12_token 1 (some .int) :: jtb) ({ frames := 0, cells := 0, slots := 0, locals := 0 } : Room) [.ref h_] [(h_, .inr (12, [g_rules, g_lefts, g_sizes, g_rights, g_edits, g_pastRules, g_pastLefts, g_pastSizes, g_pastRights, g_levels, g_codes, g_details, g_asked, g_isWorked, g_empties, g_firsts, g_follows, g_isKept, g_keptEmpties, g_keptFirsts, g_keptFollows, g_strings, g_longs, g_trial, g_trialLong, g_foundName, g_foundToken, g_foundP, g_foundQ, g_moved, g_movedSizes, g_synchronizing, .ref h_input, .int c_inputLong, g_stack, g_stackParents, g_top, .int c_at, g_steps, g_traced, g_traces, g_nodes, g_made, g_nodeSymbols, g_nodeParents, g_errors, g_errorAts, g_errorKinds, g_errorTops, g_weights, g_bests, g_bestLongs, g_partly, g_partlyLongs, g_repaired, g_repairedLong])), (h_input, .inl (tc.1, 40, .inl c_input))] (fX12_token c_input c_inputLong c_at) := by
  refine ctI0_of (lv0 := [(0, .ref h_)]) (by decide +kernel) (Nat.le_of_ble_eq_true rfl) rfl (fun X C => ?_)
  unfold fX12_token
  refine j_aload C d12_token_0 0 rfl ?_
  refine j_get C d12_token_1 fl12_293 0 rfl rfl ?_
  refine j_aload C d12_token_4 0 rfl ?_
  refine j_get C d12_token_5 fl12_287 0 rfl rfl ?_
  refine j_join 25 (fun v1 => [(h_, .inr (12, [g_rules, g_lefts, g_sizes, g_rights, g_edits, g_pastRules, g_pastLefts, g_pastSizes, g_pastRights, g_levels, g_codes, g_details, g_asked, g_isWorked, g_empties, g_firsts, g_follows, g_isKept, g_keptEmpties, g_keptFirsts, g_keptFollows, g_strings, g_longs, g_trial, g_trialLong, g_foundName, g_foundToken, g_foundP, g_foundQ, g_moved, g_movedSizes, g_synchronizing, .ref h_input, .int c_inputLong, g_stack, g_stackParents, g_top, .int c_at, g_steps, g_traced, g_traces, g_nodes, g_made, g_nodeSymbols, g_nodeParents, g_errors, g_errorAts, g_errorKinds, g_errorTops, g_weights, g_bests, g_bestLongs, g_partly, g_partlyLongs, g_repaired, g_repairedLong])), (h_input, .inl (tc.1, 40, .inl c_input))]) (fun v1 => []) (fun v1 => [.int v1]) (fun v1 => ?_) (fun k2 hk2 => ?_)
  · exact j_iret0 C d12_token_25
  · refine j_icmp_ge C d12_token_8 ?_ ?_
    · refine j_const C d12_token_23 ?_
      exact j_sub [] rfl (hk2 _)
    · refine j_aload C d12_token_11 0 rfl ?_
      refine j_get C d12_token_12 fl12_70 0 rfl rfl ?_
      refine j_aload C d12_token_15 0 rfl ?_
      refine j_get C d12_token_16 fl12_293 0 rfl rfl ?_
      refine j_iald C d12_token_19 1 rfl (fun x3 => ?_)
      refine j_goto C d12_token_20 ?_
      exact j_sub [] rfl (hk2 _)

theorem d12_goes_0 : jda cX12_goes 0 0 1 := Or.inl ⟨0, by decide +kernel⟩
theorem d12_goes_1 : jd cX12_goes 1 (.getfield 290) 3 4 := by decide +kernel
theorem d12_goes_4 : jdb cX12_goes 4 (.ifCond .ne 5) 5 9 7 := by decide +kernel
theorem d12_goes_7 : jdk cX12_goes 7 0 8 := Or.inl ⟨0, by decide +kernel⟩
theorem d12_goes_8 : decode cX12_goes 8 = .ok (.ireturn, 1) := by decide +kernel
theorem d12_goes_9 : jda cX12_goes 9 0 10 := Or.inl ⟨0, by decide +kernel⟩
theorem d12_goes_10 : jd cX12_goes 10 (.getfield 73) 3 13 := by decide +kernel
theorem d12_goes_13 : jda cX12_goes 13 0 14 := Or.inl ⟨0, by decide +kernel⟩
theorem d12_goes_14 : jd cX12_goes 14 (.getfield 290) 3 17 := by decide +kernel
theorem d12_goes_17 : jdk cX12_goes 17 1 18 := Or.inl ⟨1, by decide +kernel⟩
theorem d12_goes_18 : jd cX12_goes 18 (.isub) 1 19 := by decide +kernel
theorem d12_goes_19 : jd cX12_goes 19 (.iaload) 1 20 := by decide +kernel
theorem d12_goes_20 : jds cX12_goes 20 1 21 := Or.inl ⟨1, by decide +kernel⟩
theorem d12_goes_21 : jda cX12_goes 21 0 22 := Or.inl ⟨0, by decide +kernel⟩
theorem d12_goes_22 : jd cX12_goes 22 (.getfield 76) 3 25 := by decide +kernel
theorem d12_goes_25 : jda cX12_goes 25 0 26 := Or.inl ⟨0, by decide +kernel⟩
theorem d12_goes_26 : jd cX12_goes 26 (.getfield 290) 3 29 := by decide +kernel
theorem d12_goes_29 : jdk cX12_goes 29 1 30 := Or.inl ⟨1, by decide +kernel⟩
theorem d12_goes_30 : jd cX12_goes 30 (.isub) 1 31 := by decide +kernel
theorem d12_goes_31 : jd cX12_goes 31 (.iaload) 1 32 := by decide +kernel
theorem d12_goes_32 : jds cX12_goes 32 2 33 := Or.inl ⟨2, by decide +kernel⟩
theorem d12_goes_33 : jdi cX12_goes 33 1 34 := Or.inl ⟨1, by decide +kernel⟩
theorem d12_goes_34 : jdk cX12_goes 34 10 36 := Or.inr (Or.inl ⟨10, by decide +kernel⟩)
theorem d12_goes_36 : jdb cX12_goes 36 (.if_icmp .lt 18) 18 54 39 := by decide +kernel
theorem d12_goes_39 : jda cX12_goes 39 0 40 := Or.inl ⟨0, by decide +kernel⟩
theorem d12_goes_40 : jdi cX12_goes 40 1 41 := Or.inl ⟨1, by decide +kernel⟩
theorem d12_goes_41 : jdk cX12_goes 41 10 43 := Or.inr (Or.inl ⟨10, by decide +kernel⟩)
theorem d12_goes_43 : jd cX12_goes 43 (.isub) 1 44 := by decide +kernel
theorem d12_goes_44 : jda cX12_goes 44 0 45 := Or.inl ⟨0, by decide +kernel⟩
theorem d12_goes_45 : jd cX12_goes 45 (.invokevirtual 308) 3 48 := by decide +kernel
theorem d12_goes_48 : jd cX12_goes 48 (.invokevirtual 241) 3 51 := by decide +kernel
theorem d12_goes_51 : jdb cX12_goes 51 (.goto 5) 5 56 54 := by decide +kernel
theorem d12_goes_54 : jdk cX12_goes 54 (-2) 56 := Or.inr (Or.inl ⟨(-2), by decide +kernel⟩)
theorem d12_goes_56 : jds cX12_goes 56 3 57 := Or.inl ⟨3, by decide +kernel⟩
theorem d12_goes_57 : jdi cX12_goes 57 1 58 := Or.inl ⟨1, by decide +kernel⟩
theorem d12_goes_58 : jdk cX12_goes 58 10 60 := Or.inr (Or.inl ⟨10, by decide +kernel⟩)
theorem d12_goes_60 : jdb cX12_goes 60 (.if_icmp .ge 14) 14 74 63 := by decide +kernel
theorem d12_goes_63 : jdi cX12_goes 63 1 64 := Or.inl ⟨1, by decide +kernel⟩
theorem d12_goes_64 : jda cX12_goes 64 0 65 := Or.inl ⟨0, by decide +kernel⟩
theorem d12_goes_65 : jd cX12_goes 65 (.invokevirtual 308) 3 68 := by decide +kernel
theorem d12_goes_68 : jdb cX12_goes 68 (.if_icmp .eq 14) 14 82 71 := by decide +kernel
theorem d12_goes_71 : jdb cX12_goes 71 (.goto 9) 9 80 74 := by decide +kernel
theorem d12_goes_74 : jdi cX12_goes 74 3 75 := Or.inl ⟨3, by decide +kernel⟩
theorem d12_goes_75 : jdk cX12_goes 75 (-2) 77 := Or.inr (Or.inl ⟨(-2), by decide +kernel⟩)
theorem d12_goes_77 : jdb cX12_goes 77 (.if_icmp .ne 5) 5 82 80 := by decide +kernel
theorem d12_goes_80 : jdk cX12_goes 80 0 81 := Or.inl ⟨0, by decide +kernel⟩
theorem d12_goes_81 : decode cX12_goes 81 = .ok (.ireturn, 1) := by decide +kernel
theorem d12_goes_82 : jda cX12_goes 82 0 83 := Or.inl ⟨0, by decide +kernel⟩
theorem d12_goes_83 : jd cX12_goes 83 (.getfield 82) 3 86 := by decide +kernel
theorem d12_goes_86 : jda cX12_goes 86 0 87 := Or.inl ⟨0, by decide +kernel⟩
theorem d12_goes_87 : jd cX12_goes 87 (.getfield 305) 3 90 := by decide +kernel
theorem d12_goes_90 : jdi cX12_goes 90 1 91 := Or.inl ⟨1, by decide +kernel⟩
theorem d12_goes_91 : jd cX12_goes 91 (.iastore) 1 92 := by decide +kernel
theorem d12_goes_92 : jda cX12_goes 92 0 93 := Or.inl ⟨0, by decide +kernel⟩
theorem d12_goes_93 : jd cX12_goes 93 (.getfield 85) 3 96 := by decide +kernel
theorem d12_goes_96 : jda cX12_goes 96 0 97 := Or.inl ⟨0, by decide +kernel⟩
theorem d12_goes_97 : jd cX12_goes 97 (.getfield 305) 3 100 := by decide +kernel
theorem d12_goes_100 : jdi cX12_goes 100 2 101 := Or.inl ⟨2, by decide +kernel⟩
theorem d12_goes_101 : jd cX12_goes 101 (.iastore) 1 102 := by decide +kernel
theorem d12_goes_102 : jda cX12_goes 102 0 103 := Or.inl ⟨0, by decide +kernel⟩
theorem d12_goes_103 : jd cX12_goes 103 (.dup) 1 104 := by decide +kernel
theorem d12_goes_104 : jd cX12_goes 104 (.getfield 305) 3 107 := by decide +kernel
theorem d12_goes_107 : jdk cX12_goes 107 1 108 := Or.inl ⟨1, by decide +kernel⟩
theorem d12_goes_108 : jd cX12_goes 108 (.iadd) 1 109 := by decide +kernel
theorem d12_goes_109 : jd cX12_goes 109 (.putfield 305) 3 112 := by decide +kernel
theorem d12_goes_112 : jda cX12_goes 112 0 113 := Or.inl ⟨0, by decide +kernel⟩
theorem d12_goes_113 : jd cX12_goes 113 (.dup) 1 114 := by decide +kernel
theorem d12_goes_114 : jd cX12_goes 114 (.getfield 290) 3 117 := by decide +kernel
theorem d12_goes_117 : jdk cX12_goes 117 1 118 := Or.inl ⟨1, by decide +kernel⟩
theorem d12_goes_118 : jd cX12_goes 118 (.isub) 1 119 := by decide +kernel
theorem d12_goes_119 : jd cX12_goes 119 (.putfield 290) 3 122 := by decide +kernel
theorem d12_goes_122 : jdi cX12_goes 122 1 123 := Or.inl ⟨1, by decide +kernel⟩
theorem d12_goes_123 : jdk cX12_goes 123 10 125 := Or.inr (Or.inl ⟨10, by decide +kernel⟩)
theorem d12_goes_125 : jdb cX12_goes 125 (.if_icmp .ge 16) 16 141 128 := by decide +kernel
theorem d12_goes_128 : jda cX12_goes 128 0 129 := Or.inl ⟨0, by decide +kernel⟩
theorem d12_goes_129 : jd cX12_goes 129 (.dup) 1 130 := by decide +kernel
theorem d12_goes_130 : jd cX12_goes 130 (.getfield 293) 3 133 := by decide +kernel
theorem d12_goes_133 : jdk cX12_goes 133 1 134 := Or.inl ⟨1, by decide +kernel⟩
theorem d12_goes_134 : jd cX12_goes 134 (.iadd) 1 135 := by decide +kernel
theorem d12_goes_135 : jd cX12_goes 135 (.putfield 293) 3 138 := by decide +kernel
theorem d12_goes_138 : jdb cX12_goes 138 (.goto 85) 85 223 141 := by decide +kernel
theorem d12_goes_141 : jda cX12_goes 141 0 142 := Or.inl ⟨0, by decide +kernel⟩
theorem d12_goes_142 : jd cX12_goes 142 (.getfield 79) 3 145 := by decide +kernel
theorem d12_goes_145 : jda cX12_goes 145 0 146 := Or.inl ⟨0, by decide +kernel⟩
theorem d12_goes_146 : jd cX12_goes 146 (.getfield 299) 3 149 := by decide +kernel
theorem d12_goes_149 : jdi cX12_goes 149 3 150 := Or.inl ⟨3, by decide +kernel⟩
theorem d12_goes_150 : jd cX12_goes 150 (.iastore) 1 151 := by decide +kernel
theorem d12_goes_151 : jda cX12_goes 151 0 152 := Or.inl ⟨0, by decide +kernel⟩
theorem d12_goes_152 : jd cX12_goes 152 (.dup) 1 153 := by decide +kernel
theorem d12_goes_153 : jd cX12_goes 153 (.getfield 299) 3 156 := by decide +kernel
theorem d12_goes_156 : jdk cX12_goes 156 1 157 := Or.inl ⟨1, by decide +kernel⟩
theorem d12_goes_157 : jd cX12_goes 157 (.iadd) 1 158 := by decide +kernel
theorem d12_goes_158 : jd cX12_goes 158 (.putfield 299) 3 161 := by decide +kernel
theorem d12_goes_161 : jda cX12_goes 161 0 162 := Or.inl ⟨0, by decide +kernel⟩
theorem d12_goes_162 : jd cX12_goes 162 (.getfield 13) 3 165 := by decide +kernel
theorem d12_goes_165 : jdi cX12_goes 165 3 166 := Or.inl ⟨3, by decide +kernel⟩
theorem d12_goes_166 : jd cX12_goes 166 (.iaload) 1 167 := by decide +kernel
theorem d12_goes_167 : jdk cX12_goes 167 1 168 := Or.inl ⟨1, by decide +kernel⟩
theorem d12_goes_168 : jd cX12_goes 168 (.isub) 1 169 := by decide +kernel
theorem d12_goes_169 : jds cX12_goes 169 4 171 := Or.inr (by decide +kernel)
theorem d12_goes_171 : jdi cX12_goes 171 4 173 := Or.inr (by decide +kernel)
theorem d12_goes_173 : jdb cX12_goes 173 (.ifCond .lt 50) 50 223 176 := by decide +kernel
theorem d12_goes_176 : jda cX12_goes 176 0 177 := Or.inl ⟨0, by decide +kernel⟩
theorem d12_goes_177 : jd cX12_goes 177 (.getfield 73) 3 180 := by decide +kernel
theorem d12_goes_180 : jda cX12_goes 180 0 181 := Or.inl ⟨0, by decide +kernel⟩
theorem d12_goes_181 : jd cX12_goes 181 (.getfield 290) 3 184 := by decide +kernel
theorem d12_goes_184 : jda cX12_goes 184 0 185 := Or.inl ⟨0, by decide +kernel⟩
theorem d12_goes_185 : jdi cX12_goes 185 3 186 := Or.inl ⟨3, by decide +kernel⟩
theorem d12_goes_186 : jdi cX12_goes 186 4 188 := Or.inr (by decide +kernel)
theorem d12_goes_188 : jd cX12_goes 188 (.invokevirtual 156) 3 191 := by decide +kernel
theorem d12_goes_191 : jd cX12_goes 191 (.iastore) 1 192 := by decide +kernel
theorem d12_goes_192 : jda cX12_goes 192 0 193 := Or.inl ⟨0, by decide +kernel⟩
theorem d12_goes_193 : jd cX12_goes 193 (.getfield 76) 3 196 := by decide +kernel
theorem d12_goes_196 : jda cX12_goes 196 0 197 := Or.inl ⟨0, by decide +kernel⟩
theorem d12_goes_197 : jd cX12_goes 197 (.getfield 290) 3 200 := by decide +kernel
theorem d12_goes_200 : jda cX12_goes 200 0 201 := Or.inl ⟨0, by decide +kernel⟩
theorem d12_goes_201 : jd cX12_goes 201 (.getfield 305) 3 204 := by decide +kernel
theorem d12_goes_204 : jdk cX12_goes 204 1 205 := Or.inl ⟨1, by decide +kernel⟩
theorem d12_goes_205 : jd cX12_goes 205 (.isub) 1 206 := by decide +kernel
theorem d12_goes_206 : jd cX12_goes 206 (.iastore) 1 207 := by decide +kernel
theorem d12_goes_207 : jda cX12_goes 207 0 208 := Or.inl ⟨0, by decide +kernel⟩
theorem d12_goes_208 : jd cX12_goes 208 (.dup) 1 209 := by decide +kernel
theorem d12_goes_209 : jd cX12_goes 209 (.getfield 290) 3 212 := by decide +kernel
theorem d12_goes_212 : jdk cX12_goes 212 1 213 := Or.inl ⟨1, by decide +kernel⟩
theorem d12_goes_213 : jd cX12_goes 213 (.iadd) 1 214 := by decide +kernel
theorem d12_goes_214 : jd cX12_goes 214 (.putfield 290) 3 217 := by decide +kernel
theorem d12_goes_217 : jd cX12_goes 217 (.iinc 4 (-1)) 3 220 := by decide +kernel
theorem d12_goes_220 : jdb cX12_goes 220 (.goto (-49)) (-49) 171 223 := by decide +kernel
theorem d12_goes_223 : jda cX12_goes 223 0 224 := Or.inl ⟨0, by decide +kernel⟩
theorem d12_goes_224 : jd cX12_goes 224 (.dup) 1 225 := by decide +kernel
theorem d12_goes_225 : jd cX12_goes 225 (.getfield 296) 3 228 := by decide +kernel
theorem d12_goes_228 : jdk cX12_goes 228 1 229 := Or.inl ⟨1, by decide +kernel⟩
theorem d12_goes_229 : jd cX12_goes 229 (.iadd) 1 230 := by decide +kernel
theorem d12_goes_230 : jd cX12_goes 230 (.putfield 296) 3 233 := by decide +kernel
theorem d12_goes_233 : jdk cX12_goes 233 1 234 := Or.inl ⟨1, by decide +kernel⟩
theorem d12_goes_234 : decode cX12_goes 234 = .ok (.ireturn, 1) := by decide +kernel
set_option maxHeartbeats 4000000 in
set_option maxRecDepth 100000 in
theorem wX12_goes_171 {X : jC} {tc : jTC} (C : jx X cX12_goes 5 RX12 (some .boolean) tc ({ frames := 4, cells := 0, slots := 0, locals := 91 } : Room)) (h_ h_lefts h_sizes h_rights h_firsts h_follows h_input h_stack h_stackParents h_traces h_nodeSymbols h_nodeParents : Nat) (g_edits g_pastRules g_pastLefts g_pastSizes g_pastRights g_levels g_codes g_details g_asked g_isWorked g_isKept g_keptEmpties g_keptFirsts g_keptFollows g_strings g_longs g_trial g_trialLong g_foundName g_foundToken g_foundP g_foundQ g_moved g_movedSizes g_synchronizing g_nodes g_errors g_errorAts g_errorKinds g_errorTops g_weights g_bests g_bestLongs g_partly g_partlyLongs g_repaired g_repairedLong : Value) (c_rules : Int32) (c_lefts : (Nat → Int32)) (c_sizes : (Nat → Int32)) (c_rights : (Nat → Int32)) (c_empties : Int32) (c_firsts : (Nat → Int32)) (c_follows : (Nat → Int32)) (c_input : (Nat → Int32)) (c_inputLong : Int32) (c_at : Int32) (c_steps : Int32) (v3 : Int32) (f5 : (Nat → Int32)) (f6 : (Nat → Int32)) (x7 : Int32) (k16 : ((Nat → Int32) → (Nat → Int32) → Int32 → Int32 → Int32 → (Nat → Int32) → Option (Int32 × (Nat → Int32) × (Nat → Int32) × Int32 × Int32 × Int32 × Int32 × (Nat → Int32) × Int32 × (Nat → Int32) × (Nat → Int32)))) (f17 : (Nat → Int32)) (x18 : Int32) (hk16 : ∀ (v31 : (Nat → Int32)) (v32 : (Nat → Int32)) (v33 : Int32) (v34 : Int32) (v35 : Int32) (v36 : (Nat → Int32)), jo X 5 (0, 0) (jQI X (fun (u : (Nat → Int32) × (Nat → Int32) × Int32 × Int32 × Int32 × Int32 × (Nat → Int32) × Int32 × (Nat → Int32) × (Nat → Int32)) => [(h_, .inr (12, [.int c_rules, .ref h_lefts, .ref h_sizes, .ref h_rights, g_edits, g_pastRules, g_pastLefts, g_pastSizes, g_pastRights, g_levels, g_codes, g_details, g_asked, g_isWorked, .int c_empties, .ref h_firsts, .ref h_follows, g_isKept, g_keptEmpties, g_keptFirsts, g_keptFollows, g_strings, g_longs, g_trial, g_trialLong, g_foundName, g_foundToken, g_foundP, g_foundQ, g_moved, g_movedSizes, g_synchronizing, .ref h_input, .int c_inputLong, .ref h_stack, .ref h_stackParents, .int u.2.2.1, .int u.2.2.2.1, .int u.2.2.2.2.1, .int u.2.2.2.2.2.1, .ref h_traces, g_nodes, .int u.2.2.2.2.2.2.2.1, .ref h_nodeSymbols, .ref h_nodeParents, g_errors, g_errorAts, g_errorKinds, g_errorTops, g_weights, g_bests, g_bestLongs, g_partly, g_partlyLongs, g_repaired, g_repairedLong])), (h_lefts, .inl (tc.1, 24, .inl c_lefts)), (h_sizes, .inl (tc.1, 24, .inl c_sizes)), (h_rights, .inl (tc.1, 120, .inl c_rights)), (h_firsts, .inl (tc.1, 8, .inl c_firsts)), (h_follows, .inl (tc.1, 8, .inl c_follows)), (h_input, .inl (tc.1, 40, .inl c_input)), (h_stack, .inl (tc.1, 66, .inl u.1)), (h_stackParents, .inl (tc.1, 66, .inl u.2.1)), (h_traces, .inl (tc.1, 300, .inl u.2.2.2.2.2.2.1)), (h_nodeSymbols, .inl (tc.1, 300, .inl u.2.2.2.2.2.2.2.2.1)), (h_nodeParents, .inl (tc.1, 300, .inl u.2.2.2.2.2.2.2.2.2))])) (k16 v31 v32 v33 v34 v35 v36) [(h_, .inr (12, [.int c_rules, .ref h_lefts, .ref h_sizes, .ref h_rights, g_edits, g_pastRules, g_pastLefts, g_pastSizes, g_pastRights, g_levels, g_codes, g_details, g_asked, g_isWorked, .int c_empties, .ref h_firsts, .ref h_follows, g_isKept, g_keptEmpties, g_keptFirsts, g_keptFollows, g_strings, g_longs, g_trial, g_trialLong, g_foundName, g_foundToken, g_foundP, g_foundQ, g_moved, g_movedSizes, g_synchronizing, .ref h_input, .int c_inputLong, .ref h_stack, .ref h_stackParents, .int v33, .int v34, .int c_steps, .int v35, .ref h_traces, g_nodes, .int x7, .ref h_nodeSymbols, .ref h_nodeParents, g_errors, g_errorAts, g_errorKinds, g_errorTops, g_weights, g_bests, g_bestLongs, g_partly, g_partlyLongs, g_repaired, g_repairedLong])), (h_lefts, .inl (tc.1, 24, .inl c_lefts)), (h_sizes, .inl (tc.1, 24, .inl c_sizes)), (h_rights, .inl (tc.1, 120, .inl c_rights)), (h_firsts, .inl (tc.1, 8, .inl c_firsts)), (h_follows, .inl (tc.1, 8, .inl c_follows)), (h_input, .inl (tc.1, 40, .inl c_input)), (h_stack, .inl (tc.1, 66, .inl v31)), (h_stackParents, .inl (tc.1, 66, .inl v32)), (h_traces, .inl (tc.1, 300, .inl v36)), (h_nodeSymbols, .inl (tc.1, 300, .inl f5)), (h_nodeParents, .inl (tc.1, 300, .inl f6))] 223 [(0, .ref h_)] []) (rc25 : Int32 → (Nat → Int32) → (Nat → Int32) → Int32 → Option (Int32 × (Nat → Int32) × (Nat → Int32) × Int32 × Int32 × Int32 × Int32 × (Nat → Int32) × Int32 × (Nat → Int32) × (Nat → Int32))) (hrc25 : ∀ (v21 : Int32) (v22 : (Nat → Int32)) (v23 : (Nat → Int32)) (v24 : Int32), jo X 5 (0, 0) (jQI X (fun (u : (Nat → Int32) × (Nat → Int32) × Int32 × Int32 × Int32 × Int32 × (Nat → Int32) × Int32 × (Nat → Int32) × (Nat → Int32)) => [(h_, .inr (12, [.int c_rules, .ref h_lefts, .ref h_sizes, .ref h_rights, g_edits, g_pastRules, g_pastLefts, g_pastSizes, g_pastRights, g_levels, g_codes, g_details, g_asked, g_isWorked, .int c_empties, .ref h_firsts, .ref h_follows, g_isKept, g_keptEmpties, g_keptFirsts, g_keptFollows, g_strings, g_longs, g_trial, g_trialLong, g_foundName, g_foundToken, g_foundP, g_foundQ, g_moved, g_movedSizes, g_synchronizing, .ref h_input, .int c_inputLong, .ref h_stack, .ref h_stackParents, .int u.2.2.1, .int u.2.2.2.1, .int u.2.2.2.2.1, .int u.2.2.2.2.2.1, .ref h_traces, g_nodes, .int u.2.2.2.2.2.2.2.1, .ref h_nodeSymbols, .ref h_nodeParents, g_errors, g_errorAts, g_errorKinds, g_errorTops, g_weights, g_bests, g_bestLongs, g_partly, g_partlyLongs, g_repaired, g_repairedLong])), (h_lefts, .inl (tc.1, 24, .inl c_lefts)), (h_sizes, .inl (tc.1, 24, .inl c_sizes)), (h_rights, .inl (tc.1, 120, .inl c_rights)), (h_firsts, .inl (tc.1, 8, .inl c_firsts)), (h_follows, .inl (tc.1, 8, .inl c_follows)), (h_input, .inl (tc.1, 40, .inl c_input)), (h_stack, .inl (tc.1, 66, .inl u.1)), (h_stackParents, .inl (tc.1, 66, .inl u.2.1)), (h_traces, .inl (tc.1, 300, .inl u.2.2.2.2.2.2.1)), (h_nodeSymbols, .inl (tc.1, 300, .inl u.2.2.2.2.2.2.2.2.1)), (h_nodeParents, .inl (tc.1, 300, .inl u.2.2.2.2.2.2.2.2.2))])) (rc25 v21 v22 v23 v24) [(h_, .inr (12, [.int c_rules, .ref h_lefts, .ref h_sizes, .ref h_rights, g_edits, g_pastRules, g_pastLefts, g_pastSizes, g_pastRights, g_levels, g_codes, g_details, g_asked, g_isWorked, .int c_empties, .ref h_firsts, .ref h_follows, g_isKept, g_keptEmpties, g_keptFirsts, g_keptFollows, g_strings, g_longs, g_trial, g_trialLong, g_foundName, g_foundToken, g_foundP, g_foundQ, g_moved, g_movedSizes, g_synchronizing, .ref h_input, .int c_inputLong, .ref h_stack, .ref h_stackParents, .int v24, .int c_at, .int c_steps, .int x18, .ref h_traces, g_nodes, .int x7, .ref h_nodeSymbols, .ref h_nodeParents, g_errors, g_errorAts, g_errorKinds, g_errorTops, g_weights, g_bests, g_bestLongs, g_partly, g_partlyLongs, g_repaired, g_repairedLong])), (h_lefts, .inl (tc.1, 24, .inl c_lefts)), (h_sizes, .inl (tc.1, 24, .inl c_sizes)), (h_rights, .inl (tc.1, 120, .inl c_rights)), (h_firsts, .inl (tc.1, 8, .inl c_firsts)), (h_follows, .inl (tc.1, 8, .inl c_follows)), (h_input, .inl (tc.1, 40, .inl c_input)), (h_stack, .inl (tc.1, 66, .inl v22)), (h_stackParents, .inl (tc.1, 66, .inl v23)), (h_traces, .inl (tc.1, 300, .inl f17)), (h_nodeSymbols, .inl (tc.1, 300, .inl f5)), (h_nodeParents, .inl (tc.1, 300, .inl f6))] 171 [(0, .ref h_), (3, .int v3), (4, .int v21)] []) (v21 : Int32) (v22 : (Nat → Int32)) (v23 : (Nat → Int32)) (v24 : Int32) : jo X 5 (0, 0) (jQI X (fun (u : (Nat → Int32) × (Nat → Int32) × Int32 × Int32 × Int32 × Int32 × (Nat → Int32) × Int32 × (Nat → Int32) × (Nat → Int32)) => [(h_, .inr (12, [.int c_rules, .ref h_lefts, .ref h_sizes, .ref h_rights, g_edits, g_pastRules, g_pastLefts, g_pastSizes, g_pastRights, g_levels, g_codes, g_details, g_asked, g_isWorked, .int c_empties, .ref h_firsts, .ref h_follows, g_isKept, g_keptEmpties, g_keptFirsts, g_keptFollows, g_strings, g_longs, g_trial, g_trialLong, g_foundName, g_foundToken, g_foundP, g_foundQ, g_moved, g_movedSizes, g_synchronizing, .ref h_input, .int c_inputLong, .ref h_stack, .ref h_stackParents, .int u.2.2.1, .int u.2.2.2.1, .int u.2.2.2.2.1, .int u.2.2.2.2.2.1, .ref h_traces, g_nodes, .int u.2.2.2.2.2.2.2.1, .ref h_nodeSymbols, .ref h_nodeParents, g_errors, g_errorAts, g_errorKinds, g_errorTops, g_weights, g_bests, g_bestLongs, g_partly, g_partlyLongs, g_repaired, g_repairedLong])), (h_lefts, .inl (tc.1, 24, .inl c_lefts)), (h_sizes, .inl (tc.1, 24, .inl c_sizes)), (h_rights, .inl (tc.1, 120, .inl c_rights)), (h_firsts, .inl (tc.1, 8, .inl c_firsts)), (h_follows, .inl (tc.1, 8, .inl c_follows)), (h_input, .inl (tc.1, 40, .inl c_input)), (h_stack, .inl (tc.1, 66, .inl u.1)), (h_stackParents, .inl (tc.1, 66, .inl u.2.1)), (h_traces, .inl (tc.1, 300, .inl u.2.2.2.2.2.2.1)), (h_nodeSymbols, .inl (tc.1, 300, .inl u.2.2.2.2.2.2.2.2.1)), (h_nodeParents, .inl (tc.1, 300, .inl u.2.2.2.2.2.2.2.2.2))])) (bX12_goes_171 c_rights c_at v3 x7 k16 f17 x18 rc25 v21 v22 v23 v24) [(h_, .inr (12, [.int c_rules, .ref h_lefts, .ref h_sizes, .ref h_rights, g_edits, g_pastRules, g_pastLefts, g_pastSizes, g_pastRights, g_levels, g_codes, g_details, g_asked, g_isWorked, .int c_empties, .ref h_firsts, .ref h_follows, g_isKept, g_keptEmpties, g_keptFirsts, g_keptFollows, g_strings, g_longs, g_trial, g_trialLong, g_foundName, g_foundToken, g_foundP, g_foundQ, g_moved, g_movedSizes, g_synchronizing, .ref h_input, .int c_inputLong, .ref h_stack, .ref h_stackParents, .int v24, .int c_at, .int c_steps, .int x18, .ref h_traces, g_nodes, .int x7, .ref h_nodeSymbols, .ref h_nodeParents, g_errors, g_errorAts, g_errorKinds, g_errorTops, g_weights, g_bests, g_bestLongs, g_partly, g_partlyLongs, g_repaired, g_repairedLong])), (h_lefts, .inl (tc.1, 24, .inl c_lefts)), (h_sizes, .inl (tc.1, 24, .inl c_sizes)), (h_rights, .inl (tc.1, 120, .inl c_rights)), (h_firsts, .inl (tc.1, 8, .inl c_firsts)), (h_follows, .inl (tc.1, 8, .inl c_follows)), (h_input, .inl (tc.1, 40, .inl c_input)), (h_stack, .inl (tc.1, 66, .inl v22)), (h_stackParents, .inl (tc.1, 66, .inl v23)), (h_traces, .inl (tc.1, 300, .inl f17)), (h_nodeSymbols, .inl (tc.1, 300, .inl f5)), (h_nodeParents, .inl (tc.1, 300, .inl f6))] 171 [(0, .ref h_), (3, .int v3), (4, .int v21)] [] := by
  unfold bX12_goes_171
  refine j_iload C d12_goes_171 2 rfl ?_
  refine j_if_lt C d12_goes_173 ?_ ?_
  · exact j_sub [0] rfl (hk16 _ _ _ _ _ _)
  · refine j_aload C d12_goes_176 0 rfl ?_
    refine j_get C d12_goes_177 fl12_73 0 rfl rfl ?_
    refine j_aload C d12_goes_180 0 rfl ?_
    refine j_get C d12_goes_181 fl12_290 0 rfl rfl ?_
    refine j_aload C d12_goes_184 0 rfl ?_
    refine j_iload C d12_goes_185 1 rfl ?_
    refine j_iload C d12_goes_186 2 rfl ?_
    refine j_callVI0 (As := [.int v3, .int v21]) C d12_goes_188 mv12_156 (kX12_symbol _ _ tc h_ h_rights (.int c_rules) (.ref h_lefts) (.ref h_sizes) g_edits g_pastRules g_pastLefts g_pastSizes g_pastRights g_levels g_codes g_details g_asked g_isWorked (.int c_empties) (.ref h_firsts) (.ref h_follows) g_isKept g_keptEmpties g_keptFirsts g_keptFollows g_strings g_longs g_trial g_trialLong g_foundName g_foundToken g_foundP g_foundQ g_moved g_movedSizes g_synchronizing (.ref h_input) (.int c_inputLong) (.ref h_stack) (.ref h_stackParents) (.int v24) (.int c_at) (.int c_steps) (.int x18) (.ref h_traces) g_nodes (.int x7) (.ref h_nodeSymbols) (.ref h_nodeParents) g_errors g_errorAts g_errorKinds g_errorTops g_weights g_bests g_bestLongs g_partly g_partlyLongs g_repaired g_repairedLong c_rights v3 v21) ⟨rfl, rfl, Nat.le_of_ble_eq_true rfl, Nat.le_of_ble_eq_true rfl⟩ rfl 0 rfl [0, 3] rfl rfl rfl (Nat.le_of_ble_eq_true rfl) (fun x26 => ?_)
    refine j_iast C (fun f27 => [(h_, .inr (12, [.int c_rules, .ref h_lefts, .ref h_sizes, .ref h_rights, g_edits, g_pastRules, g_pastLefts, g_pastSizes, g_pastRights, g_levels, g_codes, g_details, g_asked, g_isWorked, .int c_empties, .ref h_firsts, .ref h_follows, g_isKept, g_keptEmpties, g_keptFirsts, g_keptFollows, g_strings, g_longs, g_trial, g_trialLong, g_foundName, g_foundToken, g_foundP, g_foundQ, g_moved, g_movedSizes, g_synchronizing, .ref h_input, .int c_inputLong, .ref h_stack, .ref h_stackParents, .int v24, .int c_at, .int c_steps, .int x18, .ref h_traces, g_nodes, .int x7, .ref h_nodeSymbols, .ref h_nodeParents, g_errors, g_errorAts, g_errorKinds, g_errorTops, g_weights, g_bests, g_bestLongs, g_partly, g_partlyLongs, g_repaired, g_repairedLong])), (h_lefts, .inl (tc.1, 24, .inl c_lefts)), (h_sizes, .inl (tc.1, 24, .inl c_sizes)), (h_rights, .inl (tc.1, 120, .inl c_rights)), (h_firsts, .inl (tc.1, 8, .inl c_firsts)), (h_follows, .inl (tc.1, 8, .inl c_follows)), (h_input, .inl (tc.1, 40, .inl c_input)), (h_stack, .inl (tc.1, 66, .inl f27)), (h_stackParents, .inl (tc.1, 66, .inl v23)), (h_traces, .inl (tc.1, 300, .inl f17)), (h_nodeSymbols, .inl (tc.1, 300, .inl f5)), (h_nodeParents, .inl (tc.1, 300, .inl f6))]) d12_goes_191 7 rfl (fun _ => rfl) (fun f27 => ?_)
    refine j_aload C d12_goes_192 0 rfl ?_
    refine j_get C d12_goes_193 fl12_76 0 rfl rfl ?_
    refine j_aload C d12_goes_196 0 rfl ?_
    refine j_get C d12_goes_197 fl12_290 0 rfl rfl ?_
    refine j_aload C d12_goes_200 0 rfl ?_
    refine j_get C d12_goes_201 fl12_305 0 rfl rfl ?_
    refine j_const C d12_goes_204 ?_
    refine j_isub C d12_goes_205 ?_
    refine j_iast C (fun f28 => [(h_, .inr (12, [.int c_rules, .ref h_lefts, .ref h_sizes, .ref h_rights, g_edits, g_pastRules, g_pastLefts, g_pastSizes, g_pastRights, g_levels, g_codes, g_details, g_asked, g_isWorked, .int c_empties, .ref h_firsts, .ref h_follows, g_isKept, g_keptEmpties, g_keptFirsts, g_keptFollows, g_strings, g_longs, g_trial, g_trialLong, g_foundName, g_foundToken, g_foundP, g_foundQ, g_moved, g_movedSizes, g_synchronizing, .ref h_input, .int c_inputLong, .ref h_stack, .ref h_stackParents, .int v24, .int c_at, .int c_steps, .int x18, .ref h_traces, g_nodes, .int x7, .ref h_nodeSymbols, .ref h_nodeParents, g_errors, g_errorAts, g_errorKinds, g_errorTops, g_weights, g_bests, g_bestLongs, g_partly, g_partlyLongs, g_repaired, g_repairedLong])), (h_lefts, .inl (tc.1, 24, .inl c_lefts)), (h_sizes, .inl (tc.1, 24, .inl c_sizes)), (h_rights, .inl (tc.1, 120, .inl c_rights)), (h_firsts, .inl (tc.1, 8, .inl c_firsts)), (h_follows, .inl (tc.1, 8, .inl c_follows)), (h_input, .inl (tc.1, 40, .inl c_input)), (h_stack, .inl (tc.1, 66, .inl f27)), (h_stackParents, .inl (tc.1, 66, .inl f28)), (h_traces, .inl (tc.1, 300, .inl f17)), (h_nodeSymbols, .inl (tc.1, 300, .inl f5)), (h_nodeParents, .inl (tc.1, 300, .inl f6))]) d12_goes_206 8 rfl (fun _ => rfl) (fun f28 => ?_)
    refine j_aload C d12_goes_207 0 rfl ?_
    refine j_dup C d12_goes_208 rfl ?_
    refine j_get C d12_goes_209 fl12_290 0 rfl rfl ?_
    refine j_const C d12_goes_212 ?_
    refine j_iadd C d12_goes_213 ?_
    refine j_leti (fun x29 => ?_)
    refine j_putq C d12_goes_214 fq12_290 0 rfl rfl rfl (Nat.le_of_ble_eq_true rfl) (ws' := [(h_, .inr (12, [.int c_rules, .ref h_lefts, .ref h_sizes, .ref h_rights, g_edits, g_pastRules, g_pastLefts, g_pastSizes, g_pastRights, g_levels, g_codes, g_details, g_asked, g_isWorked, .int c_empties, .ref h_firsts, .ref h_follows, g_isKept, g_keptEmpties, g_keptFirsts, g_keptFollows, g_strings, g_longs, g_trial, g_trialLong, g_foundName, g_foundToken, g_foundP, g_foundQ, g_moved, g_movedSizes, g_synchronizing, .ref h_input, .int c_inputLong, .ref h_stack, .ref h_stackParents, .int x29, .int c_at, .int c_steps, .int x18, .ref h_traces, g_nodes, .int x7, .ref h_nodeSymbols, .ref h_nodeParents, g_errors, g_errorAts, g_errorKinds, g_errorTops, g_weights, g_bests, g_bestLongs, g_partly, g_partlyLongs, g_repaired, g_repairedLong])), (h_lefts, .inl (tc.1, 24, .inl c_lefts)), (h_sizes, .inl (tc.1, 24, .inl c_sizes)), (h_rights, .inl (tc.1, 120, .inl c_rights)), (h_firsts, .inl (tc.1, 8, .inl c_firsts)), (h_follows, .inl (tc.1, 8, .inl c_follows)), (h_input, .inl (tc.1, 40, .inl c_input)), (h_stack, .inl (tc.1, 66, .inl f27)), (h_stackParents, .inl (tc.1, 66, .inl f28)), (h_traces, .inl (tc.1, 300, .inl f17)), (h_nodeSymbols, .inl (tc.1, 300, .inl f5)), (h_nodeParents, .inl (tc.1, 300, .inl f6))]) rfl ?_
    refine j_iincN C (fun x30 => [(4, .int x30), (0, .ref h_), (3, .int v3)]) d12_goes_217 2 rfl (by decide +kernel) (by decide) (fun _ => rfl) (fun x30 => ?_)
    refine j_goto C d12_goes_220 ?_
    exact j_sub [1, 2, 0] rfl (hrc25 _ _ _ _)

set_option maxHeartbeats 4000000 in
set_option maxRecDepth 100000 in
theorem kX12_goes (l : Launch) (D : va_G) (tc : jTC) (N : Nat) (h_ h_lefts h_sizes h_rights h_firsts h_follows h_input h_stack h_stackParents h_traces h_nodeSymbols h_nodeParents : Nat) (g_edits g_pastRules g_pastLefts g_pastSizes g_pastRights g_levels g_codes g_details g_asked g_isWorked g_isKept g_keptEmpties g_keptFirsts g_keptFollows g_strings g_longs g_trial g_trialLong g_foundName g_foundToken g_foundP g_foundQ g_moved g_movedSizes g_synchronizing g_nodes g_errors g_errorAts g_errorKinds g_errorTops g_weights g_bests g_bestLongs g_partly g_partlyLongs g_repaired g_repairedLong : Value) (c_rules : Int32) (c_lefts : (Nat → Int32)) (c_sizes : (Nat → Int32)) (c_rights : (Nat → Int32)) (c_empties : Int32) (c_firsts : (Nat → Int32)) (c_follows : (Nat → Int32)) (c_input : (Nat → Int32)) (c_inputLong : Int32) (c_stack : (Nat → Int32)) (c_stackParents : (Nat → Int32)) (c_top : Int32) (c_at : Int32) (c_steps : Int32) (c_traced : Int32) (c_traces : (Nat → Int32)) (c_made : Int32) (c_nodeSymbols : (Nat → Int32)) (c_nodeParents : (Nat → Int32)) : ctI l D tc yX12_goes (Cond.code yX12_goes cX12_goes 5 (some .boolean) :: jtb) ({ frames := 4, cells := 0, slots := 0, locals := 91 } : Room) [.ref h_] [(h_, .inr (12, [.int c_rules, .ref h_lefts, .ref h_sizes, .ref h_rights, g_edits, g_pastRules, g_pastLefts, g_pastSizes, g_pastRights, g_levels, g_codes, g_details, g_asked, g_isWorked, .int c_empties, .ref h_firsts, .ref h_follows, g_isKept, g_keptEmpties, g_keptFirsts, g_keptFollows, g_strings, g_longs, g_trial, g_trialLong, g_foundName, g_foundToken, g_foundP, g_foundQ, g_moved, g_movedSizes, g_synchronizing, .ref h_input, .int c_inputLong, .ref h_stack, .ref h_stackParents, .int c_top, .int c_at, .int c_steps, .int c_traced, .ref h_traces, g_nodes, .int c_made, .ref h_nodeSymbols, .ref h_nodeParents, g_errors, g_errorAts, g_errorKinds, g_errorTops, g_weights, g_bests, g_bestLongs, g_partly, g_partlyLongs, g_repaired, g_repairedLong])), (h_lefts, .inl (tc.1, 24, .inl c_lefts)), (h_sizes, .inl (tc.1, 24, .inl c_sizes)), (h_rights, .inl (tc.1, 120, .inl c_rights)), (h_firsts, .inl (tc.1, 8, .inl c_firsts)), (h_follows, .inl (tc.1, 8, .inl c_follows)), (h_input, .inl (tc.1, 40, .inl c_input)), (h_stack, .inl (tc.1, 66, .inl c_stack)), (h_stackParents, .inl (tc.1, 66, .inl c_stackParents)), (h_traces, .inl (tc.1, 300, .inl c_traces)), (h_nodeSymbols, .inl (tc.1, 300, .inl c_nodeSymbols)), (h_nodeParents, .inl (tc.1, 300, .inl c_nodeParents))] (fX12_goes N c_rules c_lefts c_sizes c_rights c_empties c_firsts c_follows c_input c_inputLong c_stack c_stackParents c_top c_at c_steps c_traced c_traces c_made c_nodeSymbols c_nodeParents) (fun (u : (Nat → Int32) × (Nat → Int32) × Int32 × Int32 × Int32 × Int32 × (Nat → Int32) × Int32 × (Nat → Int32) × (Nat → Int32)) => [(h_, .inr (12, [.int c_rules, .ref h_lefts, .ref h_sizes, .ref h_rights, g_edits, g_pastRules, g_pastLefts, g_pastSizes, g_pastRights, g_levels, g_codes, g_details, g_asked, g_isWorked, .int c_empties, .ref h_firsts, .ref h_follows, g_isKept, g_keptEmpties, g_keptFirsts, g_keptFollows, g_strings, g_longs, g_trial, g_trialLong, g_foundName, g_foundToken, g_foundP, g_foundQ, g_moved, g_movedSizes, g_synchronizing, .ref h_input, .int c_inputLong, .ref h_stack, .ref h_stackParents, .int u.2.2.1, .int u.2.2.2.1, .int u.2.2.2.2.1, .int u.2.2.2.2.2.1, .ref h_traces, g_nodes, .int u.2.2.2.2.2.2.2.1, .ref h_nodeSymbols, .ref h_nodeParents, g_errors, g_errorAts, g_errorKinds, g_errorTops, g_weights, g_bests, g_bestLongs, g_partly, g_partlyLongs, g_repaired, g_repairedLong])), (h_lefts, .inl (tc.1, 24, .inl c_lefts)), (h_sizes, .inl (tc.1, 24, .inl c_sizes)), (h_rights, .inl (tc.1, 120, .inl c_rights)), (h_firsts, .inl (tc.1, 8, .inl c_firsts)), (h_follows, .inl (tc.1, 8, .inl c_follows)), (h_input, .inl (tc.1, 40, .inl c_input)), (h_stack, .inl (tc.1, 66, .inl u.1)), (h_stackParents, .inl (tc.1, 66, .inl u.2.1)), (h_traces, .inl (tc.1, 300, .inl u.2.2.2.2.2.2.1)), (h_nodeSymbols, .inl (tc.1, 300, .inl u.2.2.2.2.2.2.2.2.1)), (h_nodeParents, .inl (tc.1, 300, .inl u.2.2.2.2.2.2.2.2.2))]) := by
  refine ctI_of (lv0 := [(0, .ref h_)]) (by decide +kernel) (Nat.le_of_ble_eq_true rfl) rfl (fun X C => ?_)
  unfold fX12_goes
  refine j_aload C d12_goes_0 0 rfl ?_
  refine j_get C d12_goes_1 fl12_290 0 rfl rfl ?_
  refine j_if_ne C d12_goes_4 ?_ ?_
  · refine j_aload C d12_goes_9 0 rfl ?_
    refine j_get C d12_goes_10 fl12_73 0 rfl rfl ?_
    refine j_aload C d12_goes_13 0 rfl ?_
    refine j_get C d12_goes_14 fl12_290 0 rfl rfl ?_
    refine j_const C d12_goes_17 ?_
    refine j_isub C d12_goes_18 ?_
    refine j_iald C d12_goes_19 7 rfl (fun x1 => ?_)
    refine j_istore C d12_goes_20 (by decide) (lv' := [(1, .int x1), (0, .ref h_)]) rfl ?_
    refine j_aload C d12_goes_21 1 rfl ?_
    refine j_get C d12_goes_22 fl12_76 0 rfl rfl ?_
    refine j_aload C d12_goes_25 1 rfl ?_
    refine j_get C d12_goes_26 fl12_290 0 rfl rfl ?_
    refine j_const C d12_goes_29 ?_
    refine j_isub C d12_goes_30 ?_
    refine j_iald C d12_goes_31 8 rfl (fun x2 => ?_)
    refine j_istore C d12_goes_32 (by decide) (lv' := [(2, .int x2), (1, .int x1), (0, .ref h_)]) rfl ?_
    refine j_iload C d12_goes_33 1 rfl ?_
    refine j_const C d12_goes_34 ?_
    refine j_join 56 (fun v3 => [(h_, .inr (12, [.int c_rules, .ref h_lefts, .ref h_sizes, .ref h_rights, g_edits, g_pastRules, g_pastLefts, g_pastSizes, g_pastRights, g_levels, g_codes, g_details, g_asked, g_isWorked, .int c_empties, .ref h_firsts, .ref h_follows, g_isKept, g_keptEmpties, g_keptFirsts, g_keptFollows, g_strings, g_longs, g_trial, g_trialLong, g_foundName, g_foundToken, g_foundP, g_foundQ, g_moved, g_movedSizes, g_synchronizing, .ref h_input, .int c_inputLong, .ref h_stack, .ref h_stackParents, .int c_top, .int c_at, .int c_steps, .int c_traced, .ref h_traces, g_nodes, .int c_made, .ref h_nodeSymbols, .ref h_nodeParents, g_errors, g_errorAts, g_errorKinds, g_errorTops, g_weights, g_bests, g_bestLongs, g_partly, g_partlyLongs, g_repaired, g_repairedLong])), (h_lefts, .inl (tc.1, 24, .inl c_lefts)), (h_sizes, .inl (tc.1, 24, .inl c_sizes)), (h_rights, .inl (tc.1, 120, .inl c_rights)), (h_firsts, .inl (tc.1, 8, .inl c_firsts)), (h_follows, .inl (tc.1, 8, .inl c_follows)), (h_input, .inl (tc.1, 40, .inl c_input)), (h_stack, .inl (tc.1, 66, .inl c_stack)), (h_stackParents, .inl (tc.1, 66, .inl c_stackParents)), (h_traces, .inl (tc.1, 300, .inl c_traces)), (h_nodeSymbols, .inl (tc.1, 300, .inl c_nodeSymbols)), (h_nodeParents, .inl (tc.1, 300, .inl c_nodeParents))]) (fun v3 => [(0, .ref h_), (1, .int x1), (2, .int x2)]) (fun v3 => [.int v3]) (fun v3 => ?_) (fun k42 hk42 => ?_)
    · refine j_istore C d12_goes_56 (by decide) (lv' := [(3, .int v3), (0, .ref h_), (1, .int x1), (2, .int x2)]) rfl ?_
      refine j_iload C d12_goes_57 2 rfl ?_
      refine j_const C d12_goes_58 ?_
      refine j_join 82 (fun v4 => [(h_, .inr (12, [.int c_rules, .ref h_lefts, .ref h_sizes, .ref h_rights, g_edits, g_pastRules, g_pastLefts, g_pastSizes, g_pastRights, g_levels, g_codes, g_details, g_asked, g_isWorked, .int c_empties, .ref h_firsts, .ref h_follows, g_isKept, g_keptEmpties, g_keptFirsts, g_keptFollows, g_strings, g_longs, g_trial, g_trialLong, g_foundName, g_foundToken, g_foundP, g_foundQ, g_moved, g_movedSizes, g_synchronizing, .ref h_input, .int c_inputLong, .ref h_stack, .ref h_stackParents, .int c_top, .int c_at, .int c_steps, .int c_traced, .ref h_traces, g_nodes, .int c_made, .ref h_nodeSymbols, .ref h_nodeParents, g_errors, g_errorAts, g_errorKinds, g_errorTops, g_weights, g_bests, g_bestLongs, g_partly, g_partlyLongs, g_repaired, g_repairedLong])), (h_lefts, .inl (tc.1, 24, .inl c_lefts)), (h_sizes, .inl (tc.1, 24, .inl c_sizes)), (h_rights, .inl (tc.1, 120, .inl c_rights)), (h_firsts, .inl (tc.1, 8, .inl c_firsts)), (h_follows, .inl (tc.1, 8, .inl c_follows)), (h_input, .inl (tc.1, 40, .inl c_input)), (h_stack, .inl (tc.1, 66, .inl c_stack)), (h_stackParents, .inl (tc.1, 66, .inl c_stackParents)), (h_traces, .inl (tc.1, 300, .inl c_traces)), (h_nodeSymbols, .inl (tc.1, 300, .inl c_nodeSymbols)), (h_nodeParents, .inl (tc.1, 300, .inl c_nodeParents))]) (fun v4 => [(0, .ref h_), (1, .int x1), (2, .int x2), (3, .int v3)]) (fun v4 => []) (fun v4 => ?_) (fun k38 hk38 => ?_)
      · refine j_aload C d12_goes_82 0 rfl ?_
        refine j_get C d12_goes_83 fl12_82 0 rfl rfl ?_
        refine j_aload C d12_goes_86 0 rfl ?_
        refine j_get C d12_goes_87 fl12_305 0 rfl rfl ?_
        refine j_iload C d12_goes_90 1 rfl ?_
        refine j_iast C (fun f5 => [(h_, .inr (12, [.int c_rules, .ref h_lefts, .ref h_sizes, .ref h_rights, g_edits, g_pastRules, g_pastLefts, g_pastSizes, g_pastRights, g_levels, g_codes, g_details, g_asked, g_isWorked, .int c_empties, .ref h_firsts, .ref h_follows, g_isKept, g_keptEmpties, g_keptFirsts, g_keptFollows, g_strings, g_longs, g_trial, g_trialLong, g_foundName, g_foundToken, g_foundP, g_foundQ, g_moved, g_movedSizes, g_synchronizing, .ref h_input, .int c_inputLong, .ref h_stack, .ref h_stackParents, .int c_top, .int c_at, .int c_steps, .int c_traced, .ref h_traces, g_nodes, .int c_made, .ref h_nodeSymbols, .ref h_nodeParents, g_errors, g_errorAts, g_errorKinds, g_errorTops, g_weights, g_bests, g_bestLongs, g_partly, g_partlyLongs, g_repaired, g_repairedLong])), (h_lefts, .inl (tc.1, 24, .inl c_lefts)), (h_sizes, .inl (tc.1, 24, .inl c_sizes)), (h_rights, .inl (tc.1, 120, .inl c_rights)), (h_firsts, .inl (tc.1, 8, .inl c_firsts)), (h_follows, .inl (tc.1, 8, .inl c_follows)), (h_input, .inl (tc.1, 40, .inl c_input)), (h_stack, .inl (tc.1, 66, .inl c_stack)), (h_stackParents, .inl (tc.1, 66, .inl c_stackParents)), (h_traces, .inl (tc.1, 300, .inl c_traces)), (h_nodeSymbols, .inl (tc.1, 300, .inl f5)), (h_nodeParents, .inl (tc.1, 300, .inl c_nodeParents))]) d12_goes_91 10 rfl (fun _ => rfl) (fun f5 => ?_)
        refine j_aload C d12_goes_92 0 rfl ?_
        refine j_get C d12_goes_93 fl12_85 0 rfl rfl ?_
        refine j_aload C d12_goes_96 0 rfl ?_
        refine j_get C d12_goes_97 fl12_305 0 rfl rfl ?_
        refine j_iload C d12_goes_100 2 rfl ?_
        refine j_iast C (fun f6 => [(h_, .inr (12, [.int c_rules, .ref h_lefts, .ref h_sizes, .ref h_rights, g_edits, g_pastRules, g_pastLefts, g_pastSizes, g_pastRights, g_levels, g_codes, g_details, g_asked, g_isWorked, .int c_empties, .ref h_firsts, .ref h_follows, g_isKept, g_keptEmpties, g_keptFirsts, g_keptFollows, g_strings, g_longs, g_trial, g_trialLong, g_foundName, g_foundToken, g_foundP, g_foundQ, g_moved, g_movedSizes, g_synchronizing, .ref h_input, .int c_inputLong, .ref h_stack, .ref h_stackParents, .int c_top, .int c_at, .int c_steps, .int c_traced, .ref h_traces, g_nodes, .int c_made, .ref h_nodeSymbols, .ref h_nodeParents, g_errors, g_errorAts, g_errorKinds, g_errorTops, g_weights, g_bests, g_bestLongs, g_partly, g_partlyLongs, g_repaired, g_repairedLong])), (h_lefts, .inl (tc.1, 24, .inl c_lefts)), (h_sizes, .inl (tc.1, 24, .inl c_sizes)), (h_rights, .inl (tc.1, 120, .inl c_rights)), (h_firsts, .inl (tc.1, 8, .inl c_firsts)), (h_follows, .inl (tc.1, 8, .inl c_follows)), (h_input, .inl (tc.1, 40, .inl c_input)), (h_stack, .inl (tc.1, 66, .inl c_stack)), (h_stackParents, .inl (tc.1, 66, .inl c_stackParents)), (h_traces, .inl (tc.1, 300, .inl c_traces)), (h_nodeSymbols, .inl (tc.1, 300, .inl f5)), (h_nodeParents, .inl (tc.1, 300, .inl f6))]) d12_goes_101 11 rfl (fun _ => rfl) (fun f6 => ?_)
        refine j_aload C d12_goes_102 0 rfl ?_
        refine j_dup C d12_goes_103 rfl ?_
        refine j_get C d12_goes_104 fl12_305 0 rfl rfl ?_
        refine j_const C d12_goes_107 ?_
        refine j_iadd C d12_goes_108 ?_
        refine j_leti (fun x7 => ?_)
        refine j_putq C d12_goes_109 fq12_305 0 rfl rfl rfl (Nat.le_of_ble_eq_true rfl) (ws' := [(h_, .inr (12, [.int c_rules, .ref h_lefts, .ref h_sizes, .ref h_rights, g_edits, g_pastRules, g_pastLefts, g_pastSizes, g_pastRights, g_levels, g_codes, g_details, g_asked, g_isWorked, .int c_empties, .ref h_firsts, .ref h_follows, g_isKept, g_keptEmpties, g_keptFirsts, g_keptFollows, g_strings, g_longs, g_trial, g_trialLong, g_foundName, g_foundToken, g_foundP, g_foundQ, g_moved, g_movedSizes, g_synchronizing, .ref h_input, .int c_inputLong, .ref h_stack, .ref h_stackParents, .int c_top, .int c_at, .int c_steps, .int c_traced, .ref h_traces, g_nodes, .int x7, .ref h_nodeSymbols, .ref h_nodeParents, g_errors, g_errorAts, g_errorKinds, g_errorTops, g_weights, g_bests, g_bestLongs, g_partly, g_partlyLongs, g_repaired, g_repairedLong])), (h_lefts, .inl (tc.1, 24, .inl c_lefts)), (h_sizes, .inl (tc.1, 24, .inl c_sizes)), (h_rights, .inl (tc.1, 120, .inl c_rights)), (h_firsts, .inl (tc.1, 8, .inl c_firsts)), (h_follows, .inl (tc.1, 8, .inl c_follows)), (h_input, .inl (tc.1, 40, .inl c_input)), (h_stack, .inl (tc.1, 66, .inl c_stack)), (h_stackParents, .inl (tc.1, 66, .inl c_stackParents)), (h_traces, .inl (tc.1, 300, .inl c_traces)), (h_nodeSymbols, .inl (tc.1, 300, .inl f5)), (h_nodeParents, .inl (tc.1, 300, .inl f6))]) rfl ?_
        refine j_aload C d12_goes_112 0 rfl ?_
        refine j_dup C d12_goes_113 rfl ?_
        refine j_get C d12_goes_114 fl12_290 0 rfl rfl ?_
        refine j_const C d12_goes_117 ?_
        refine j_isub C d12_goes_118 ?_
        refine j_leti (fun x8 => ?_)
        refine j_putq C d12_goes_119 fq12_290 0 rfl rfl rfl (Nat.le_of_ble_eq_true rfl) (ws' := [(h_, .inr (12, [.int c_rules, .ref h_lefts, .ref h_sizes, .ref h_rights, g_edits, g_pastRules, g_pastLefts, g_pastSizes, g_pastRights, g_levels, g_codes, g_details, g_asked, g_isWorked, .int c_empties, .ref h_firsts, .ref h_follows, g_isKept, g_keptEmpties, g_keptFirsts, g_keptFollows, g_strings, g_longs, g_trial, g_trialLong, g_foundName, g_foundToken, g_foundP, g_foundQ, g_moved, g_movedSizes, g_synchronizing, .ref h_input, .int c_inputLong, .ref h_stack, .ref h_stackParents, .int x8, .int c_at, .int c_steps, .int c_traced, .ref h_traces, g_nodes, .int x7, .ref h_nodeSymbols, .ref h_nodeParents, g_errors, g_errorAts, g_errorKinds, g_errorTops, g_weights, g_bests, g_bestLongs, g_partly, g_partlyLongs, g_repaired, g_repairedLong])), (h_lefts, .inl (tc.1, 24, .inl c_lefts)), (h_sizes, .inl (tc.1, 24, .inl c_sizes)), (h_rights, .inl (tc.1, 120, .inl c_rights)), (h_firsts, .inl (tc.1, 8, .inl c_firsts)), (h_follows, .inl (tc.1, 8, .inl c_follows)), (h_input, .inl (tc.1, 40, .inl c_input)), (h_stack, .inl (tc.1, 66, .inl c_stack)), (h_stackParents, .inl (tc.1, 66, .inl c_stackParents)), (h_traces, .inl (tc.1, 300, .inl c_traces)), (h_nodeSymbols, .inl (tc.1, 300, .inl f5)), (h_nodeParents, .inl (tc.1, 300, .inl f6))]) rfl ?_
        refine j_iload C d12_goes_122 1 rfl ?_
        refine j_const C d12_goes_123 ?_
        refine j_join6 223 (fun v9 v10 v11 v12 v13 v14 => [(h_, .inr (12, [.int c_rules, .ref h_lefts, .ref h_sizes, .ref h_rights, g_edits, g_pastRules, g_pastLefts, g_pastSizes, g_pastRights, g_levels, g_codes, g_details, g_asked, g_isWorked, .int c_empties, .ref h_firsts, .ref h_follows, g_isKept, g_keptEmpties, g_keptFirsts, g_keptFollows, g_strings, g_longs, g_trial, g_trialLong, g_foundName, g_foundToken, g_foundP, g_foundQ, g_moved, g_movedSizes, g_synchronizing, .ref h_input, .int c_inputLong, .ref h_stack, .ref h_stackParents, .int v11, .int v12, .int c_steps, .int v13, .ref h_traces, g_nodes, .int x7, .ref h_nodeSymbols, .ref h_nodeParents, g_errors, g_errorAts, g_errorKinds, g_errorTops, g_weights, g_bests, g_bestLongs, g_partly, g_partlyLongs, g_repaired, g_repairedLong])), (h_lefts, .inl (tc.1, 24, .inl c_lefts)), (h_sizes, .inl (tc.1, 24, .inl c_sizes)), (h_rights, .inl (tc.1, 120, .inl c_rights)), (h_firsts, .inl (tc.1, 8, .inl c_firsts)), (h_follows, .inl (tc.1, 8, .inl c_follows)), (h_input, .inl (tc.1, 40, .inl c_input)), (h_stack, .inl (tc.1, 66, .inl v9)), (h_stackParents, .inl (tc.1, 66, .inl v10)), (h_traces, .inl (tc.1, 300, .inl v14)), (h_nodeSymbols, .inl (tc.1, 300, .inl f5)), (h_nodeParents, .inl (tc.1, 300, .inl f6))]) (fun v9 v10 v11 v12 v13 v14 => [(0, .ref h_)]) (fun v9 v10 v11 v12 v13 v14 => []) (fun v9 v10 v11 v12 v13 v14 => ?_) (fun k16 hk16 => ?_)
        · refine j_aload C d12_goes_223 0 rfl ?_
          refine j_dup C d12_goes_224 rfl ?_
          refine j_get C d12_goes_225 fl12_296 0 rfl rfl ?_
          refine j_const C d12_goes_228 ?_
          refine j_iadd C d12_goes_229 ?_
          refine j_leti (fun x15 => ?_)
          refine j_putq C d12_goes_230 fq12_296 0 rfl rfl rfl (Nat.le_of_ble_eq_true rfl) (ws' := [(h_, .inr (12, [.int c_rules, .ref h_lefts, .ref h_sizes, .ref h_rights, g_edits, g_pastRules, g_pastLefts, g_pastSizes, g_pastRights, g_levels, g_codes, g_details, g_asked, g_isWorked, .int c_empties, .ref h_firsts, .ref h_follows, g_isKept, g_keptEmpties, g_keptFirsts, g_keptFollows, g_strings, g_longs, g_trial, g_trialLong, g_foundName, g_foundToken, g_foundP, g_foundQ, g_moved, g_movedSizes, g_synchronizing, .ref h_input, .int c_inputLong, .ref h_stack, .ref h_stackParents, .int v11, .int v12, .int x15, .int v13, .ref h_traces, g_nodes, .int x7, .ref h_nodeSymbols, .ref h_nodeParents, g_errors, g_errorAts, g_errorKinds, g_errorTops, g_weights, g_bests, g_bestLongs, g_partly, g_partlyLongs, g_repaired, g_repairedLong])), (h_lefts, .inl (tc.1, 24, .inl c_lefts)), (h_sizes, .inl (tc.1, 24, .inl c_sizes)), (h_rights, .inl (tc.1, 120, .inl c_rights)), (h_firsts, .inl (tc.1, 8, .inl c_firsts)), (h_follows, .inl (tc.1, 8, .inl c_follows)), (h_input, .inl (tc.1, 40, .inl c_input)), (h_stack, .inl (tc.1, 66, .inl v9)), (h_stackParents, .inl (tc.1, 66, .inl v10)), (h_traces, .inl (tc.1, 300, .inl v14)), (h_nodeSymbols, .inl (tc.1, 300, .inl f5)), (h_nodeParents, .inl (tc.1, 300, .inl f6))]) rfl ?_
          refine j_const C d12_goes_233 ?_
          exact j_zret C (by decide) d12_goes_234 rfl
        · refine j_icmp_ge C d12_goes_125 ?_ ?_
          · refine j_aload C d12_goes_141 0 rfl ?_
            refine j_get C d12_goes_142 fl12_79 0 rfl rfl ?_
            refine j_aload C d12_goes_145 0 rfl ?_
            refine j_get C d12_goes_146 fl12_299 0 rfl rfl ?_
            refine j_iload C d12_goes_149 3 rfl ?_
            refine j_iast C (fun f17 => [(h_, .inr (12, [.int c_rules, .ref h_lefts, .ref h_sizes, .ref h_rights, g_edits, g_pastRules, g_pastLefts, g_pastSizes, g_pastRights, g_levels, g_codes, g_details, g_asked, g_isWorked, .int c_empties, .ref h_firsts, .ref h_follows, g_isKept, g_keptEmpties, g_keptFirsts, g_keptFollows, g_strings, g_longs, g_trial, g_trialLong, g_foundName, g_foundToken, g_foundP, g_foundQ, g_moved, g_movedSizes, g_synchronizing, .ref h_input, .int c_inputLong, .ref h_stack, .ref h_stackParents, .int x8, .int c_at, .int c_steps, .int c_traced, .ref h_traces, g_nodes, .int x7, .ref h_nodeSymbols, .ref h_nodeParents, g_errors, g_errorAts, g_errorKinds, g_errorTops, g_weights, g_bests, g_bestLongs, g_partly, g_partlyLongs, g_repaired, g_repairedLong])), (h_lefts, .inl (tc.1, 24, .inl c_lefts)), (h_sizes, .inl (tc.1, 24, .inl c_sizes)), (h_rights, .inl (tc.1, 120, .inl c_rights)), (h_firsts, .inl (tc.1, 8, .inl c_firsts)), (h_follows, .inl (tc.1, 8, .inl c_follows)), (h_input, .inl (tc.1, 40, .inl c_input)), (h_stack, .inl (tc.1, 66, .inl c_stack)), (h_stackParents, .inl (tc.1, 66, .inl c_stackParents)), (h_traces, .inl (tc.1, 300, .inl f17)), (h_nodeSymbols, .inl (tc.1, 300, .inl f5)), (h_nodeParents, .inl (tc.1, 300, .inl f6))]) d12_goes_150 9 rfl (fun _ => rfl) (fun f17 => ?_)
            refine j_aload C d12_goes_151 0 rfl ?_
            refine j_dup C d12_goes_152 rfl ?_
            refine j_get C d12_goes_153 fl12_299 0 rfl rfl ?_
            refine j_const C d12_goes_156 ?_
            refine j_iadd C d12_goes_157 ?_
            refine j_leti (fun x18 => ?_)
            refine j_putq C d12_goes_158 fq12_299 0 rfl rfl rfl (Nat.le_of_ble_eq_true rfl) (ws' := [(h_, .inr (12, [.int c_rules, .ref h_lefts, .ref h_sizes, .ref h_rights, g_edits, g_pastRules, g_pastLefts, g_pastSizes, g_pastRights, g_levels, g_codes, g_details, g_asked, g_isWorked, .int c_empties, .ref h_firsts, .ref h_follows, g_isKept, g_keptEmpties, g_keptFirsts, g_keptFollows, g_strings, g_longs, g_trial, g_trialLong, g_foundName, g_foundToken, g_foundP, g_foundQ, g_moved, g_movedSizes, g_synchronizing, .ref h_input, .int c_inputLong, .ref h_stack, .ref h_stackParents, .int x8, .int c_at, .int c_steps, .int x18, .ref h_traces, g_nodes, .int x7, .ref h_nodeSymbols, .ref h_nodeParents, g_errors, g_errorAts, g_errorKinds, g_errorTops, g_weights, g_bests, g_bestLongs, g_partly, g_partlyLongs, g_repaired, g_repairedLong])), (h_lefts, .inl (tc.1, 24, .inl c_lefts)), (h_sizes, .inl (tc.1, 24, .inl c_sizes)), (h_rights, .inl (tc.1, 120, .inl c_rights)), (h_firsts, .inl (tc.1, 8, .inl c_firsts)), (h_follows, .inl (tc.1, 8, .inl c_follows)), (h_input, .inl (tc.1, 40, .inl c_input)), (h_stack, .inl (tc.1, 66, .inl c_stack)), (h_stackParents, .inl (tc.1, 66, .inl c_stackParents)), (h_traces, .inl (tc.1, 300, .inl f17)), (h_nodeSymbols, .inl (tc.1, 300, .inl f5)), (h_nodeParents, .inl (tc.1, 300, .inl f6))]) rfl ?_
            refine j_aload C d12_goes_161 0 rfl ?_
            refine j_get C d12_goes_162 fl12_13 0 rfl rfl ?_
            refine j_iload C d12_goes_165 3 rfl ?_
            refine j_iald C d12_goes_166 2 rfl (fun x19 => ?_)
            refine j_const C d12_goes_167 ?_
            refine j_isub C d12_goes_168 ?_
            refine j_leti (fun x20 => ?_)
            refine j_istore C d12_goes_169 (by decide) (lv' := [(4, .int x20), (0, .ref h_), (1, .int x1), (2, .int x2), (3, .int v3)]) rfl ?_
            exact j_sub [1, 4, 0] rfl (j_loop4 (fun v21 v22 v23 v24 => [(h_, .inr (12, [.int c_rules, .ref h_lefts, .ref h_sizes, .ref h_rights, g_edits, g_pastRules, g_pastLefts, g_pastSizes, g_pastRights, g_levels, g_codes, g_details, g_asked, g_isWorked, .int c_empties, .ref h_firsts, .ref h_follows, g_isKept, g_keptEmpties, g_keptFirsts, g_keptFollows, g_strings, g_longs, g_trial, g_trialLong, g_foundName, g_foundToken, g_foundP, g_foundQ, g_moved, g_movedSizes, g_synchronizing, .ref h_input, .int c_inputLong, .ref h_stack, .ref h_stackParents, .int v24, .int c_at, .int c_steps, .int x18, .ref h_traces, g_nodes, .int x7, .ref h_nodeSymbols, .ref h_nodeParents, g_errors, g_errorAts, g_errorKinds, g_errorTops, g_weights, g_bests, g_bestLongs, g_partly, g_partlyLongs, g_repaired, g_repairedLong])), (h_lefts, .inl (tc.1, 24, .inl c_lefts)), (h_sizes, .inl (tc.1, 24, .inl c_sizes)), (h_rights, .inl (tc.1, 120, .inl c_rights)), (h_firsts, .inl (tc.1, 8, .inl c_firsts)), (h_follows, .inl (tc.1, 8, .inl c_follows)), (h_input, .inl (tc.1, 40, .inl c_input)), (h_stack, .inl (tc.1, 66, .inl v22)), (h_stackParents, .inl (tc.1, 66, .inl v23)), (h_traces, .inl (tc.1, 300, .inl f17)), (h_nodeSymbols, .inl (tc.1, 300, .inl f5)), (h_nodeParents, .inl (tc.1, 300, .inl f6))]) (fun v21 v22 v23 v24 => [(0, .ref h_), (3, .int v3), (4, .int v21)]) (fun rc25 hrc25 v21 v22 v23 v24 => wX12_goes_171 C h_ h_lefts h_sizes h_rights h_firsts h_follows h_input h_stack h_stackParents h_traces h_nodeSymbols h_nodeParents g_edits g_pastRules g_pastLefts g_pastSizes g_pastRights g_levels g_codes g_details g_asked g_isWorked g_isKept g_keptEmpties g_keptFirsts g_keptFollows g_strings g_longs g_trial g_trialLong g_foundName g_foundToken g_foundP g_foundQ g_moved g_movedSizes g_synchronizing g_nodes g_errors g_errorAts g_errorKinds g_errorTops g_weights g_bests g_bestLongs g_partly g_partlyLongs g_repaired g_repairedLong c_rules c_lefts c_sizes c_rights c_empties c_firsts c_follows c_input c_inputLong c_at c_steps v3 f5 f6 x7 k16 f17 x18 hk16 rc25 hrc25 v21 v22 v23 v24) N _ _ _ _)
          · refine j_aload C d12_goes_128 0 rfl ?_
            refine j_dup C d12_goes_129 rfl ?_
            refine j_get C d12_goes_130 fl12_293 0 rfl rfl ?_
            refine j_const C d12_goes_133 ?_
            refine j_iadd C d12_goes_134 ?_
            refine j_leti (fun x37 => ?_)
            refine j_putq C d12_goes_135 fq12_293 0 rfl rfl rfl (Nat.le_of_ble_eq_true rfl) (ws' := [(h_, .inr (12, [.int c_rules, .ref h_lefts, .ref h_sizes, .ref h_rights, g_edits, g_pastRules, g_pastLefts, g_pastSizes, g_pastRights, g_levels, g_codes, g_details, g_asked, g_isWorked, .int c_empties, .ref h_firsts, .ref h_follows, g_isKept, g_keptEmpties, g_keptFirsts, g_keptFollows, g_strings, g_longs, g_trial, g_trialLong, g_foundName, g_foundToken, g_foundP, g_foundQ, g_moved, g_movedSizes, g_synchronizing, .ref h_input, .int c_inputLong, .ref h_stack, .ref h_stackParents, .int x8, .int x37, .int c_steps, .int c_traced, .ref h_traces, g_nodes, .int x7, .ref h_nodeSymbols, .ref h_nodeParents, g_errors, g_errorAts, g_errorKinds, g_errorTops, g_weights, g_bests, g_bestLongs, g_partly, g_partlyLongs, g_repaired, g_repairedLong])), (h_lefts, .inl (tc.1, 24, .inl c_lefts)), (h_sizes, .inl (tc.1, 24, .inl c_sizes)), (h_rights, .inl (tc.1, 120, .inl c_rights)), (h_firsts, .inl (tc.1, 8, .inl c_firsts)), (h_follows, .inl (tc.1, 8, .inl c_follows)), (h_input, .inl (tc.1, 40, .inl c_input)), (h_stack, .inl (tc.1, 66, .inl c_stack)), (h_stackParents, .inl (tc.1, 66, .inl c_stackParents)), (h_traces, .inl (tc.1, 300, .inl c_traces)), (h_nodeSymbols, .inl (tc.1, 300, .inl f5)), (h_nodeParents, .inl (tc.1, 300, .inl f6))]) rfl ?_
            refine j_goto C d12_goes_138 ?_
            exact j_sub [0] rfl (hk16 _ _ _ _ _ _)
      · refine j_join 80 (fun v39 => [(h_, .inr (12, [.int c_rules, .ref h_lefts, .ref h_sizes, .ref h_rights, g_edits, g_pastRules, g_pastLefts, g_pastSizes, g_pastRights, g_levels, g_codes, g_details, g_asked, g_isWorked, .int c_empties, .ref h_firsts, .ref h_follows, g_isKept, g_keptEmpties, g_keptFirsts, g_keptFollows, g_strings, g_longs, g_trial, g_trialLong, g_foundName, g_foundToken, g_foundP, g_foundQ, g_moved, g_movedSizes, g_synchronizing, .ref h_input, .int c_inputLong, .ref h_stack, .ref h_stackParents, .int c_top, .int c_at, .int c_steps, .int c_traced, .ref h_traces, g_nodes, .int c_made, .ref h_nodeSymbols, .ref h_nodeParents, g_errors, g_errorAts, g_errorKinds, g_errorTops, g_weights, g_bests, g_bestLongs, g_partly, g_partlyLongs, g_repaired, g_repairedLong])), (h_lefts, .inl (tc.1, 24, .inl c_lefts)), (h_sizes, .inl (tc.1, 24, .inl c_sizes)), (h_rights, .inl (tc.1, 120, .inl c_rights)), (h_firsts, .inl (tc.1, 8, .inl c_firsts)), (h_follows, .inl (tc.1, 8, .inl c_follows)), (h_input, .inl (tc.1, 40, .inl c_input)), (h_stack, .inl (tc.1, 66, .inl c_stack)), (h_stackParents, .inl (tc.1, 66, .inl c_stackParents)), (h_traces, .inl (tc.1, 300, .inl c_traces)), (h_nodeSymbols, .inl (tc.1, 300, .inl c_nodeSymbols)), (h_nodeParents, .inl (tc.1, 300, .inl c_nodeParents))]) (fun v39 => []) (fun v39 => []) (fun v39 => ?_) (fun k40 hk40 => ?_)
        · refine j_const C d12_goes_80 ?_
          exact j_zret C (by decide) d12_goes_81 rfl
        · refine j_icmp_ge C d12_goes_60 ?_ ?_
          · refine j_iload C d12_goes_74 0 rfl ?_
            refine j_const C d12_goes_75 ?_
            refine j_icmp_ne C d12_goes_77 ?_ ?_
            · exact j_sub [1, 2, 3, 0] rfl (hk38 _)
            · exact j_sub [] rfl (hk40 _)
          · refine j_iload C d12_goes_63 2 rfl ?_
            refine j_aload C d12_goes_64 1 rfl ?_
            refine j_callVI0 (As := []) C d12_goes_65 mv12_308 (kX12_token _ _ tc h_ h_input (.int c_rules) (.ref h_lefts) (.ref h_sizes) (.ref h_rights) g_edits g_pastRules g_pastLefts g_pastSizes g_pastRights g_levels g_codes g_details g_asked g_isWorked (.int c_empties) (.ref h_firsts) (.ref h_follows) g_isKept g_keptEmpties g_keptFirsts g_keptFollows g_strings g_longs g_trial g_trialLong g_foundName g_foundToken g_foundP g_foundQ g_moved g_movedSizes g_synchronizing (.ref h_stack) (.ref h_stackParents) (.int c_top) (.int c_steps) (.int c_traced) (.ref h_traces) g_nodes (.int c_made) (.ref h_nodeSymbols) (.ref h_nodeParents) g_errors g_errorAts g_errorKinds g_errorTops g_weights g_bests g_bestLongs g_partly g_partlyLongs g_repaired g_repairedLong c_input c_inputLong c_at) ⟨rfl, rfl, Nat.le_of_ble_eq_true rfl, Nat.le_of_ble_eq_true rfl⟩ rfl 0 rfl [0, 6] rfl rfl rfl (Nat.le_of_ble_eq_true rfl) (fun x41 => ?_)
            refine j_icmp_eq C d12_goes_68 ?_ ?_
            · exact j_sub [1, 2, 3, 0] rfl (hk38 _)
            · refine j_goto C d12_goes_71 ?_
              exact j_sub [] rfl (hk40 _)
    · refine j_icmp_lt C d12_goes_36 ?_ ?_
      · refine j_const C d12_goes_54 ?_
        exact j_sub [2, 1, 0] rfl (hk42 _)
      · refine j_aload C d12_goes_39 2 rfl ?_
        refine j_iload C d12_goes_40 1 rfl ?_
        refine j_const C d12_goes_41 ?_
        refine j_isub C d12_goes_43 ?_
        refine j_aload C d12_goes_44 2 rfl ?_
        refine j_callVI0 (As := []) C d12_goes_45 mv12_308 (kX12_token _ _ tc h_ h_input (.int c_rules) (.ref h_lefts) (.ref h_sizes) (.ref h_rights) g_edits g_pastRules g_pastLefts g_pastSizes g_pastRights g_levels g_codes g_details g_asked g_isWorked (.int c_empties) (.ref h_firsts) (.ref h_follows) g_isKept g_keptEmpties g_keptFirsts g_keptFollows g_strings g_longs g_trial g_trialLong g_foundName g_foundToken g_foundP g_foundQ g_moved g_movedSizes g_synchronizing (.ref h_stack) (.ref h_stackParents) (.int c_top) (.int c_steps) (.int c_traced) (.ref h_traces) g_nodes (.int c_made) (.ref h_nodeSymbols) (.ref h_nodeParents) g_errors g_errorAts g_errorKinds g_errorTops g_weights g_bests g_bestLongs g_partly g_partlyLongs g_repaired g_repairedLong c_input c_inputLong c_at) ⟨rfl, rfl, Nat.le_of_ble_eq_true rfl, Nat.le_of_ble_eq_true rfl⟩ rfl 0 rfl [0, 6] rfl rfl rfl (Nat.le_of_ble_eq_true rfl) (fun x43 => ?_)
        refine j_callVI0 (As := [.int (x1 - (10 : Int32)), .int x43]) C d12_goes_48 mv12_241 (kX12_entry _ _ tc N h_ h_lefts h_sizes h_rights h_firsts h_follows g_edits g_pastRules g_pastLefts g_pastSizes g_pastRights g_levels g_codes g_details g_asked g_isWorked g_isKept g_keptEmpties g_keptFirsts g_keptFollows g_strings g_longs g_trial g_trialLong g_foundName g_foundToken g_foundP g_foundQ g_moved g_movedSizes g_synchronizing (.ref h_input) (.int c_inputLong) (.ref h_stack) (.ref h_stackParents) (.int c_top) (.int c_at) (.int c_steps) (.int c_traced) (.ref h_traces) g_nodes (.int c_made) (.ref h_nodeSymbols) (.ref h_nodeParents) g_errors g_errorAts g_errorKinds g_errorTops g_weights g_bests g_bestLongs g_partly g_partlyLongs g_repaired g_repairedLong c_rules c_lefts c_sizes c_rights c_empties c_firsts c_follows (x1 - (10 : Int32)) x43) ⟨rfl, rfl, Nat.le_of_ble_eq_true rfl, Nat.le_of_ble_eq_true rfl⟩ rfl 0 rfl [0, 1, 2, 3, 4, 5] rfl rfl rfl (Nat.le_of_ble_eq_true rfl) (fun x44 => ?_)
        refine j_goto C d12_goes_51 ?_
        exact j_sub [2, 1, 0] rfl (hk42 _)
  · refine j_const C d12_goes_7 ?_
    exact j_zret C (by decide) d12_goes_8 rfl

