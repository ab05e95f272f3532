theorem d12_canGo_0 : jda cX12_canGo 0 0 1 := Or.inl ⟨0, by decide +kernel⟩
theorem d12_canGo_1 : jd cX12_canGo 1 (.getfield 290) 3 4 := by decide +kernel
theorem d12_canGo_4 : jdb cX12_canGo 4 (.ifCond .ne 5) 5 9 7 := by decide +kernel
theorem d12_canGo_7 : jdk cX12_canGo 7 0 8 := Or.inl ⟨0, by decide +kernel⟩
theorem d12_canGo_8 : decode cX12_canGo 8 = .ok (.ireturn, 1) := by decide +kernel
theorem d12_canGo_9 : jda cX12_canGo 9 0 10 := Or.inl ⟨0, by decide +kernel⟩
theorem d12_canGo_10 : jd cX12_canGo 10 (.getfield 73) 3 13 := by decide +kernel
theorem d12_canGo_13 : jda cX12_canGo 13 0 14 := Or.inl ⟨0, by decide +kernel⟩
theorem d12_canGo_14 : jd cX12_canGo 14 (.getfield 290) 3 17 := by decide +kernel
theorem d12_canGo_17 : jdk cX12_canGo 17 1 18 := Or.inl ⟨1, by decide +kernel⟩
theorem d12_canGo_18 : jd cX12_canGo 18 (.isub) 1 19 := by decide +kernel
theorem d12_canGo_19 : jd cX12_canGo 19 (.iaload) 1 20 := by decide +kernel
theorem d12_canGo_20 : jds cX12_canGo 20 1 21 := Or.inl ⟨1, by decide +kernel⟩
theorem d12_canGo_21 : jdi cX12_canGo 21 1 22 := Or.inl ⟨1, by decide +kernel⟩
theorem d12_canGo_22 : jdk cX12_canGo 22 10 24 := Or.inr (Or.inl ⟨10, by decide +kernel⟩)
theorem d12_canGo_24 : jdb cX12_canGo 24 (.if_icmp .ge 19) 19 43 27 := by decide +kernel
theorem d12_canGo_27 : jdi cX12_canGo 27 1 28 := Or.inl ⟨1, by decide +kernel⟩
theorem d12_canGo_28 : jda cX12_canGo 28 0 29 := Or.inl ⟨0, by decide +kernel⟩
theorem d12_canGo_29 : jd cX12_canGo 29 (.invokevirtual 308) 3 32 := by decide +kernel
theorem d12_canGo_32 : jdb cX12_canGo 32 (.if_icmp .ne 7) 7 39 35 := by decide +kernel
theorem d12_canGo_35 : jdk cX12_canGo 35 1 36 := Or.inl ⟨1, by decide +kernel⟩
theorem d12_canGo_36 : jdb cX12_canGo 36 (.goto 29) 29 65 39 := by decide +kernel
theorem d12_canGo_39 : jdk cX12_canGo 39 0 40 := Or.inl ⟨0, by decide +kernel⟩
theorem d12_canGo_40 : jdb cX12_canGo 40 (.goto 25) 25 65 43 := by decide +kernel
theorem d12_canGo_43 : jda cX12_canGo 43 0 44 := Or.inl ⟨0, by decide +kernel⟩
theorem d12_canGo_44 : jdi cX12_canGo 44 1 45 := Or.inl ⟨1, by decide +kernel⟩
theorem d12_canGo_45 : jdk cX12_canGo 45 10 47 := Or.inr (Or.inl ⟨10, by decide +kernel⟩)
theorem d12_canGo_47 : jd cX12_canGo 47 (.isub) 1 48 := by decide +kernel
theorem d12_canGo_48 : jda cX12_canGo 48 0 49 := Or.inl ⟨0, by decide +kernel⟩
theorem d12_canGo_49 : jd cX12_canGo 49 (.invokevirtual 308) 3 52 := by decide +kernel
theorem d12_canGo_52 : jd cX12_canGo 52 (.invokevirtual 241) 3 55 := by decide +kernel
theorem d12_canGo_55 : jdk cX12_canGo 55 (-2) 57 := Or.inr (Or.inl ⟨(-2), by decide +kernel⟩)
theorem d12_canGo_57 : jdb cX12_canGo 57 (.if_icmp .eq 7) 7 64 60 := by decide +kernel
theorem d12_canGo_60 : jdk cX12_canGo 60 1 61 := Or.inl ⟨1, by decide +kernel⟩
theorem d12_canGo_61 : jdb cX12_canGo 61 (.goto 4) 4 65 64 := by decide +kernel
theorem d12_canGo_64 : jdk cX12_canGo 64 0 65 := Or.inl ⟨0, by decide +kernel⟩
theorem d12_canGo_65 : decode cX12_canGo 65 = .ok (.ireturn, 1) := by decide +kernel
set_option maxHeartbeats 4000000 in
set_option maxRecDepth 100000 in
theorem kX12_canGo (l : Launch) (D : va_G) (tc : jTC) (N : Nat) (h_ h_lefts h_sizes h_rights h_firsts h_follows h_input h_stack : Nat) (g_edits g_pastRules g_pastLefts g_pastSizes g_pastRights g_levels g_codes g_details g_asked g_isWorked g_isKept g_keptEmpties g_keptFirsts g_keptFollows g_strings g_longs g_trial g_trialLong g_foundName g_foundToken g_foundP g_foundQ g_moved g_movedSizes g_synchronizing g_stackParents g_steps g_traced g_traces g_nodes g_made g_nodeSymbols g_nodeParents g_errors g_errorAts g_errorKinds g_errorTops g_weights g_bests g_bestLongs g_partly g_partlyLongs g_repaired g_repairedLong : Value) (c_rules : Int32) (c_lefts : (Nat → Int32)) (c_sizes : (Nat → Int32)) (c_rights : (Nat → Int32)) (c_empties : Int32) (c_firsts : (Nat → Int32)) (c_follows : (Nat → Int32)) (c_input : (Nat → Int32)) (c_inputLong : Int32) (c_stack : (Nat → Int32)) (c_top : Int32) (c_at : Int32) : ctI0 l D tc yX12_canGo (Cond.code yX12_canGo cX12_canGo 2 (some .boolean) :: jtb) ({ frames := 4, cells := 0, slots := 0, locals := 91 } : Room) [.ref h_] [(h_, .inr (12, [.int c_rules, .ref h_lefts, .ref h_sizes, .ref h_rights, g_edits, g_pastRules, g_pastLefts, g_pastSizes, g_pastRights, g_levels, g_codes, g_details, g_asked, g_isWorked, .int c_empties, .ref h_firsts, .ref h_follows, g_isKept, g_keptEmpties, g_keptFirsts, g_keptFollows, g_strings, g_longs, g_trial, g_trialLong, g_foundName, g_foundToken, g_foundP, g_foundQ, g_moved, g_movedSizes, g_synchronizing, .ref h_input, .int c_inputLong, .ref h_stack, g_stackParents, .int c_top, .int c_at, g_steps, g_traced, g_traces, g_nodes, g_made, g_nodeSymbols, g_nodeParents, g_errors, g_errorAts, g_errorKinds, g_errorTops, g_weights, g_bests, g_bestLongs, g_partly, g_partlyLongs, g_repaired, g_repairedLong])), (h_lefts, .inl (tc.1, 24, .inl c_lefts)), (h_sizes, .inl (tc.1, 24, .inl c_sizes)), (h_rights, .inl (tc.1, 120, .inl c_rights)), (h_firsts, .inl (tc.1, 8, .inl c_firsts)), (h_follows, .inl (tc.1, 8, .inl c_follows)), (h_input, .inl (tc.1, 40, .inl c_input)), (h_stack, .inl (tc.1, 66, .inl c_stack))] (fX12_canGo N c_rules c_lefts c_sizes c_rights c_empties c_firsts c_follows c_input c_inputLong c_stack c_top c_at) := by
  refine ctI0_of (lv0 := [(0, .ref h_)]) (by decide +kernel) (Nat.le_of_ble_eq_true rfl) rfl (fun X C => ?_)
  unfold fX12_canGo
  refine j_aload C d12_canGo_0 0 rfl ?_
  refine j_get C d12_canGo_1 fl12_290 0 rfl rfl ?_
  refine j_if_ne C d12_canGo_4 ?_ ?_
  · refine j_aload C d12_canGo_9 0 rfl ?_
    refine j_get C d12_canGo_10 fl12_73 0 rfl rfl ?_
    refine j_aload C d12_canGo_13 0 rfl ?_
    refine j_get C d12_canGo_14 fl12_290 0 rfl rfl ?_
    refine j_const C d12_canGo_17 ?_
    refine j_isub C d12_canGo_18 ?_
    refine j_iald C d12_canGo_19 7 rfl (fun x1 => ?_)
    refine j_istore C d12_canGo_20 (by decide) (lv' := [(1, .int x1), (0, .ref h_)]) rfl ?_
    refine j_iload C d12_canGo_21 0 rfl ?_
    refine j_const C d12_canGo_22 ?_
    refine j_join 65 (fun v2 => [(h_, .inr (12, [.int c_rules, .ref h_lefts, .ref h_sizes, .ref h_rights, g_edits, g_pastRules, g_pastLefts, g_pastSizes, g_pastRights, g_levels, g_codes, g_details, g_asked, g_isWorked, .int c_empties, .ref h_firsts, .ref h_follows, g_isKept, g_keptEmpties, g_keptFirsts, g_keptFollows, g_strings, g_longs, g_trial, g_trialLong, g_foundName, g_foundToken, g_foundP, g_foundQ, g_moved, g_movedSizes, g_synchronizing, .ref h_input, .int c_inputLong, .ref h_stack, g_stackParents, .int c_top, .int c_at, g_steps, g_traced, g_traces, g_nodes, g_made, g_nodeSymbols, g_nodeParents, g_errors, g_errorAts, g_errorKinds, g_errorTops, g_weights, g_bests, g_bestLongs, g_partly, g_partlyLongs, g_repaired, g_repairedLong])), (h_lefts, .inl (tc.1, 24, .inl c_lefts)), (h_sizes, .inl (tc.1, 24, .inl c_sizes)), (h_rights, .inl (tc.1, 120, .inl c_rights)), (h_firsts, .inl (tc.1, 8, .inl c_firsts)), (h_follows, .inl (tc.1, 8, .inl c_follows)), (h_input, .inl (tc.1, 40, .inl c_input)), (h_stack, .inl (tc.1, 66, .inl c_stack))]) (fun v2 => []) (fun v2 => [.int v2]) (fun v2 => ?_) (fun k3 hk3 => ?_)
    · refine j_gz (fun hz => ?_)
      exact j_zret0 C hz d12_canGo_65
    · refine j_icmp_ge C d12_canGo_24 ?_ ?_
      · refine j_aload C d12_canGo_43 1 rfl ?_
        refine j_iload C d12_canGo_44 0 rfl ?_
        refine j_const C d12_canGo_45 ?_
        refine j_isub C d12_canGo_47 ?_
        refine j_aload C d12_canGo_48 1 rfl ?_
        refine j_callVI0 (As := []) C d12_canGo_49 mv12_308 (kX12_token _ _ tc h_ h_input (.int c_rules) (.ref h_lefts) (.ref h_sizes) (.ref h_rights) g_edits g_pastRules g_pastLefts g_pastSizes g_pastRights g_levels g_codes g_details g_asked g_isWorked (.int c_empties) (.ref h_firsts) (.ref h_follows) g_isKept g_keptEmpties g_keptFirsts g_keptFollows g_strings g_longs g_trial g_trialLong g_foundName g_foundToken g_foundP g_foundQ g_moved g_movedSizes g_synchronizing (.ref h_stack) g_stackParents (.int c_top) g_steps g_traced g_traces g_nodes g_made g_nodeSymbols g_nodeParents g_errors g_errorAts g_errorKinds g_errorTops g_weights g_bests g_bestLongs g_partly g_partlyLongs g_repaired g_repairedLong c_input c_inputLong c_at) ⟨rfl, rfl, Nat.le_of_ble_eq_true rfl, Nat.le_of_ble_eq_true rfl⟩ rfl 0 rfl [0, 6] rfl rfl rfl (Nat.le_of_ble_eq_true rfl) (fun x4 => ?_)
        refine j_callVI0 (As := [.int (x1 - (10 : Int32)), .int x4]) C d12_canGo_52 mv12_241 (kX12_entry _ _ tc N h_ h_lefts h_sizes h_rights h_firsts h_follows g_edits g_pastRules g_pastLefts g_pastSizes g_pastRights g_levels g_codes g_details g_asked g_isWorked g_isKept g_keptEmpties g_keptFirsts g_keptFollows g_strings g_longs g_trial g_trialLong g_foundName g_foundToken g_foundP g_foundQ g_moved g_movedSizes g_synchronizing (.ref h_input) (.int c_inputLong) (.ref h_stack) g_stackParents (.int c_top) (.int c_at) g_steps g_traced g_traces g_nodes g_made g_nodeSymbols g_nodeParents g_errors g_errorAts g_errorKinds g_errorTops g_weights g_bests g_bestLongs g_partly g_partlyLongs g_repaired g_repairedLong c_rules c_lefts c_sizes c_rights c_empties c_firsts c_follows (x1 - (10 : Int32)) x4) ⟨rfl, rfl, Nat.le_of_ble_eq_true rfl, Nat.le_of_ble_eq_true rfl⟩ rfl 0 rfl [0, 1, 2, 3, 4, 5] rfl rfl rfl (Nat.le_of_ble_eq_true rfl) (fun x5 => ?_)
        refine j_const C d12_canGo_55 ?_
        refine j_icmp_eq C d12_canGo_57 ?_ ?_
        · refine j_const C d12_canGo_64 ?_
          exact j_sub [] rfl (hk3 _)
        · refine j_const C d12_canGo_60 ?_
          refine j_goto C d12_canGo_61 ?_
          exact j_sub [] rfl (hk3 _)
      · refine j_iload C d12_canGo_27 0 rfl ?_
        refine j_aload C d12_canGo_28 1 rfl ?_
        refine j_callVI0 (As := []) C d12_canGo_29 mv12_308 (kX12_token _ _ tc h_ h_input (.int c_rules) (.ref h_lefts) (.ref h_sizes) (.ref h_rights) g_edits g_pastRules g_pastLefts g_pastSizes g_pastRights g_levels g_codes g_details g_asked g_isWorked (.int c_empties) (.ref h_firsts) (.ref h_follows) g_isKept g_keptEmpties g_keptFirsts g_keptFollows g_strings g_longs g_trial g_trialLong g_foundName g_foundToken g_foundP g_foundQ g_moved g_movedSizes g_synchronizing (.ref h_stack) g_stackParents (.int c_top) g_steps g_traced g_traces g_nodes g_made g_nodeSymbols g_nodeParents g_errors g_errorAts g_errorKinds g_errorTops g_weights g_bests g_bestLongs g_partly g_partlyLongs g_repaired g_repairedLong c_input c_inputLong c_at) ⟨rfl, rfl, Nat.le_of_ble_eq_true rfl, Nat.le_of_ble_eq_true rfl⟩ rfl 0 rfl [0, 6] rfl rfl rfl (Nat.le_of_ble_eq_true rfl) (fun x6 => ?_)
        refine j_icmp_ne C d12_canGo_32 ?_ ?_
        · refine j_const C d12_canGo_39 ?_
          refine j_goto C d12_canGo_40 ?_
          exact j_sub [] rfl (hk3 _)
        · refine j_const C d12_canGo_35 ?_
          refine j_goto C d12_canGo_36 ?_
          exact j_sub [] rfl (hk3 _)
  · refine j_const C d12_canGo_7 ?_
    exact j_zret0 C (by decide) d12_canGo_8

