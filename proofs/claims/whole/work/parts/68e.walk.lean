theorem d12_error_0 : jdi cX12_error 0 2 1 := Or.inl ⟨2, by decide +kernel⟩
theorem d12_error_1 : jdk cX12_error 1 0 2 := Or.inl ⟨0, by decide +kernel⟩
theorem d12_error_2 : jdk cX12_error 2 2 3 := Or.inl ⟨2, by decide +kernel⟩
theorem d12_error_3 : jd cX12_error 3 (.invokestatic 119) 3 6 := by decide +kernel
theorem d12_error_6 : jdb cX12_error 6 (.ifCond .ne 5) 5 11 9 := by decide +kernel
theorem d12_error_9 : jdk cX12_error 9 (-1) 10 := Or.inl ⟨(-1), by decide +kernel⟩
theorem d12_error_10 : decode cX12_error 10 = .ok (.ireturn, 1) := by decide +kernel
theorem d12_error_11 : jdi cX12_error 11 1 12 := Or.inl ⟨1, by decide +kernel⟩
theorem d12_error_12 : jdk cX12_error 12 0 13 := Or.inl ⟨0, by decide +kernel⟩
theorem d12_error_13 : jda cX12_error 13 0 14 := Or.inl ⟨0, by decide +kernel⟩
theorem d12_error_14 : jd cX12_error 14 (.getfield 332) 3 17 := by decide +kernel
theorem d12_error_17 : jdk cX12_error 17 1 18 := Or.inl ⟨1, by decide +kernel⟩
theorem d12_error_18 : jd cX12_error 18 (.isub) 1 19 := by decide +kernel
theorem d12_error_19 : jd cX12_error 19 (.invokestatic 119) 3 22 := by decide +kernel
theorem d12_error_22 : jdb cX12_error 22 (.ifCond .ne 8) 8 30 25 := by decide +kernel
theorem d12_error_25 : jdk cX12_error 25 (-2) 27 := Or.inr (Or.inl ⟨(-2), by decide +kernel⟩)
theorem d12_error_27 : jdb cX12_error 27 (.goto 36) 36 63 30 := by decide +kernel
theorem d12_error_30 : jdi cX12_error 30 2 31 := Or.inl ⟨2, by decide +kernel⟩
theorem d12_error_31 : jdb cX12_error 31 (.ifCond .ne 12) 12 43 34 := by decide +kernel
theorem d12_error_34 : jda cX12_error 34 0 35 := Or.inl ⟨0, by decide +kernel⟩
theorem d12_error_35 : jd cX12_error 35 (.getfield 88) 3 38 := by decide +kernel
theorem d12_error_38 : jdi cX12_error 38 1 39 := Or.inl ⟨1, by decide +kernel⟩
theorem d12_error_39 : jd cX12_error 39 (.iaload) 1 40 := by decide +kernel
theorem d12_error_40 : jdb cX12_error 40 (.goto 23) 23 63 43 := by decide +kernel
theorem d12_error_43 : jdi cX12_error 43 2 44 := Or.inl ⟨2, by decide +kernel⟩
theorem d12_error_44 : jdk cX12_error 44 1 45 := Or.inl ⟨1, by decide +kernel⟩
theorem d12_error_45 : jdb cX12_error 45 (.if_icmp .ne 12) 12 57 48 := by decide +kernel
theorem d12_error_48 : jda cX12_error 48 0 49 := Or.inl ⟨0, by decide +kernel⟩
theorem d12_error_49 : jd cX12_error 49 (.getfield 91) 3 52 := by decide +kernel
theorem d12_error_52 : jdi cX12_error 52 1 53 := Or.inl ⟨1, by decide +kernel⟩
theorem d12_error_53 : jd cX12_error 53 (.iaload) 1 54 := by decide +kernel
theorem d12_error_54 : jdb cX12_error 54 (.goto 9) 9 63 57 := by decide +kernel
theorem d12_error_57 : jda cX12_error 57 0 58 := Or.inl ⟨0, by decide +kernel⟩
theorem d12_error_58 : jd cX12_error 58 (.getfield 94) 3 61 := by decide +kernel
theorem d12_error_61 : jdi cX12_error 61 1 62 := Or.inl ⟨1, by decide +kernel⟩
theorem d12_error_62 : jd cX12_error 62 (.iaload) 1 63 := by decide +kernel
theorem d12_error_63 : decode cX12_error 63 = .ok (.ireturn, 1) := by decide +kernel
set_option maxHeartbeats 4000000 in
set_option maxRecDepth 100000 in
theorem kX12_error (l : Launch) (D : va_G) (tc : jTC) (h_ h_errorAts h_errorKinds h_errorTops : Nat) (g_rules g_lefts g_sizes g_rights g_edits g_pastRules g_pastLefts g_pastSizes g_pastRights g_levels g_codes g_details g_asked g_isWorked g_empties g_firsts g_follows g_isKept g_keptEmpties g_keptFirsts g_keptFollows g_strings g_longs g_trial g_trialLong g_foundName g_foundToken g_foundP g_foundQ g_moved g_movedSizes g_synchronizing g_input g_inputLong g_stack g_stackParents g_top g_at g_steps g_traced g_traces g_nodes g_made g_nodeSymbols g_nodeParents g_weights g_bests g_bestLongs g_partly g_partlyLongs g_repaired g_repairedLong : Value) (c_errors : Int32) (c_errorAts : (Nat → Int32)) (c_errorKinds : (Nat → Int32)) (c_errorTops : (Nat → Int32)) (p1 : Int32) (p2 : Int32) : ctI0 l D tc yX12_error (Cond.code yX12_error cX12_error 3 (some .int) :: jtb) ({ frames := 1, cells := 0, slots := 0, locals := 22 } : Room) [.ref h_, .int p1, .int p2] [(h_, .inr (12, [g_rules, g_lefts, g_sizes, g_rights, g_edits, g_pastRules, g_pastLefts, g_pastSizes, g_pastRights, g_levels, g_codes, g_details, g_asked, g_isWorked, g_empties, g_firsts, g_follows, g_isKept, g_keptEmpties, g_keptFirsts, g_keptFollows, g_strings, g_longs, g_trial, g_trialLong, g_foundName, g_foundToken, g_foundP, g_foundQ, g_moved, g_movedSizes, g_synchronizing, g_input, g_inputLong, g_stack, g_stackParents, g_top, g_at, g_steps, g_traced, g_traces, g_nodes, g_made, g_nodeSymbols, g_nodeParents, .int c_errors, .ref h_errorAts, .ref h_errorKinds, .ref h_errorTops, g_weights, g_bests, g_bestLongs, g_partly, g_partlyLongs, g_repaired, g_repairedLong])), (h_errorAts, .inl (tc.1, 300, .inl c_errorAts)), (h_errorKinds, .inl (tc.1, 300, .inl c_errorKinds)), (h_errorTops, .inl (tc.1, 300, .inl c_errorTops))] (fX12_error c_errors c_errorAts c_errorKinds c_errorTops p1 p2) := by
  refine ctI0_of (lv0 := [(0, .ref h_), (1, .int p1), (2, .int p2)]) (by decide +kernel) (Nat.le_of_ble_eq_true rfl) rfl (fun X C => ?_)
  unfold fX12_error
  refine j_iload C d12_error_0 2 rfl ?_
  refine j_const C d12_error_1 ?_
  refine j_const C d12_error_2 ?_
  refine j_callSI0 (As := [.int p2, .int 0, .int 2]) C d12_error_3 ms12_119 (kX12_in _ _ tc p2 0 2) ⟨rfl, rfl, Nat.le_of_ble_eq_true rfl, Nat.le_of_ble_eq_true rfl⟩ rfl [] rfl rfl rfl (Nat.le_of_ble_eq_true rfl) (fun x1 => ?_)
  refine j_if_ne C d12_error_6 ?_ ?_
  · refine j_iload C d12_error_11 1 rfl ?_
    refine j_const C d12_error_12 ?_
    refine j_aload C d12_error_13 0 rfl ?_
    refine j_get C d12_error_14 fl12_332 0 rfl rfl ?_
    refine j_const C d12_error_17 ?_
    refine j_isub C d12_error_18 ?_
    refine j_callSI0 (As := [.int p1, .int 0, .int (c_errors - (1 : Int32))]) C d12_error_19 ms12_119 (kX12_in _ _ tc p1 0 (c_errors - (1 : Int32))) ⟨rfl, rfl, Nat.le_of_ble_eq_true rfl, Nat.le_of_ble_eq_true rfl⟩ rfl [] rfl rfl rfl (Nat.le_of_ble_eq_true rfl) (fun x2 => ?_)
    refine j_join 63 (fun v3 => [(h_, .inr (12, [g_rules, g_lefts, g_sizes, g_rights, g_edits, g_pastRules, g_pastLefts, g_pastSizes, g_pastRights, g_levels, g_codes, g_details, g_asked, g_isWorked, g_empties, g_firsts, g_follows, g_isKept, g_keptEmpties, g_keptFirsts, g_keptFollows, g_strings, g_longs, g_trial, g_trialLong, g_foundName, g_foundToken, g_foundP, g_foundQ, g_moved, g_movedSizes, g_synchronizing, g_input, g_inputLong, g_stack, g_stackParents, g_top, g_at, g_steps, g_traced, g_traces, g_nodes, g_made, g_nodeSymbols, g_nodeParents, .int c_errors, .ref h_errorAts, .ref h_errorKinds, .ref h_errorTops, g_weights, g_bests, g_bestLongs, g_partly, g_partlyLongs, g_repaired, g_repairedLong])), (h_errorAts, .inl (tc.1, 300, .inl c_errorAts)), (h_errorKinds, .inl (tc.1, 300, .inl c_errorKinds)), (h_errorTops, .inl (tc.1, 300, .inl c_errorTops))]) (fun v3 => []) (fun v3 => [.int v3]) (fun v3 => ?_) (fun k4 hk4 => ?_)
    · exact j_iret0 C d12_error_63
    · refine j_if_ne C d12_error_22 ?_ ?_
      · refine j_iload C d12_error_30 2 rfl ?_
        refine j_if_ne C d12_error_31 ?_ ?_
        · refine j_iload C d12_error_43 2 rfl ?_
          refine j_const C d12_error_44 ?_
          refine j_icmp_ne C d12_error_45 ?_ ?_
          · refine j_aload C d12_error_57 0 rfl ?_
            refine j_get C d12_error_58 fl12_94 0 rfl rfl ?_
            refine j_iload C d12_error_61 1 rfl ?_
            refine j_iald C d12_error_62 3 rfl (fun x5 => ?_)
            exact j_sub [] rfl (hk4 _)
          · refine j_aload C d12_error_48 0 rfl ?_
            refine j_get C d12_error_49 fl12_91 0 rfl rfl ?_
            refine j_iload C d12_error_52 1 rfl ?_
            refine j_iald C d12_error_53 2 rfl (fun x6 => ?_)
            refine j_goto C d12_error_54 ?_
            exact j_sub [] rfl (hk4 _)
        · refine j_aload C d12_error_34 0 rfl ?_
          refine j_get C d12_error_35 fl12_88 0 rfl rfl ?_
          refine j_iload C d12_error_38 1 rfl ?_
          refine j_iald C d12_error_39 1 rfl (fun x7 => ?_)
          refine j_goto C d12_error_40 ?_
          exact j_sub [] rfl (hk4 _)
      · refine j_const C d12_error_25 ?_
        refine j_goto C d12_error_27 ?_
        exact j_sub [] rfl (hk4 _)
  · refine j_const C d12_error_9 ?_
    exact j_iret0 C d12_error_10

