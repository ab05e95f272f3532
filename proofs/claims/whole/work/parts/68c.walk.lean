theorem d12_errs_0 : jda cX12_errs 0 0 1 := Or.inl ⟨0, by decide +kernel⟩
theorem d12_errs_1 : jd cX12_errs 1 (.getfield 88) 3 4 := by decide +kernel
theorem d12_errs_4 : jda cX12_errs 4 0 5 := Or.inl ⟨0, by decide +kernel⟩
theorem d12_errs_5 : jd cX12_errs 5 (.getfield 332) 3 8 := by decide +kernel
theorem d12_errs_8 : jda cX12_errs 8 0 9 := Or.inl ⟨0, by decide +kernel⟩
theorem d12_errs_9 : jd cX12_errs 9 (.getfield 293) 3 12 := by decide +kernel
theorem d12_errs_12 : jd cX12_errs 12 (.iastore) 1 13 := by decide +kernel
theorem d12_errs_13 : jda cX12_errs 13 0 14 := Or.inl ⟨0, by decide +kernel⟩
theorem d12_errs_14 : jd cX12_errs 14 (.getfield 91) 3 17 := by decide +kernel
theorem d12_errs_17 : jda cX12_errs 17 0 18 := Or.inl ⟨0, by decide +kernel⟩
theorem d12_errs_18 : jd cX12_errs 18 (.getfield 332) 3 21 := by decide +kernel
theorem d12_errs_21 : jdi cX12_errs 21 1 22 := Or.inl ⟨1, by decide +kernel⟩
theorem d12_errs_22 : jd cX12_errs 22 (.iastore) 1 23 := by decide +kernel
theorem d12_errs_23 : jda cX12_errs 23 0 24 := Or.inl ⟨0, by decide +kernel⟩
theorem d12_errs_24 : jd cX12_errs 24 (.getfield 94) 3 27 := by decide +kernel
theorem d12_errs_27 : jda cX12_errs 27 0 28 := Or.inl ⟨0, by decide +kernel⟩
theorem d12_errs_28 : jd cX12_errs 28 (.getfield 332) 3 31 := by decide +kernel
theorem d12_errs_31 : jdi cX12_errs 31 1 32 := Or.inl ⟨1, by decide +kernel⟩
theorem d12_errs_32 : jdk cX12_errs 32 3 33 := Or.inl ⟨3, by decide +kernel⟩
theorem d12_errs_33 : jdb cX12_errs 33 (.if_icmp .ne 7) 7 40 36 := by decide +kernel
theorem d12_errs_36 : jdk cX12_errs 36 (-1) 37 := Or.inl ⟨(-1), by decide +kernel⟩
theorem d12_errs_37 : jdb cX12_errs 37 (.goto 14) 14 51 40 := by decide +kernel
theorem d12_errs_40 : jda cX12_errs 40 0 41 := Or.inl ⟨0, by decide +kernel⟩
theorem d12_errs_41 : jd cX12_errs 41 (.getfield 73) 3 44 := by decide +kernel
theorem d12_errs_44 : jda cX12_errs 44 0 45 := Or.inl ⟨0, by decide +kernel⟩
theorem d12_errs_45 : jd cX12_errs 45 (.getfield 290) 3 48 := by decide +kernel
theorem d12_errs_48 : jdk cX12_errs 48 1 49 := Or.inl ⟨1, by decide +kernel⟩
theorem d12_errs_49 : jd cX12_errs 49 (.isub) 1 50 := by decide +kernel
theorem d12_errs_50 : jd cX12_errs 50 (.iaload) 1 51 := by decide +kernel
theorem d12_errs_51 : jd cX12_errs 51 (.iastore) 1 52 := by decide +kernel
theorem d12_errs_52 : jda cX12_errs 52 0 53 := Or.inl ⟨0, by decide +kernel⟩
theorem d12_errs_53 : jd cX12_errs 53 (.dup) 1 54 := by decide +kernel
theorem d12_errs_54 : jd cX12_errs 54 (.getfield 332) 3 57 := by decide +kernel
theorem d12_errs_57 : jdk cX12_errs 57 1 58 := Or.inl ⟨1, by decide +kernel⟩
theorem d12_errs_58 : jd cX12_errs 58 (.iadd) 1 59 := by decide +kernel
theorem d12_errs_59 : jd cX12_errs 59 (.putfield 332) 3 62 := by decide +kernel
theorem d12_errs_62 : jda cX12_errs 62 0 63 := Or.inl ⟨0, by decide +kernel⟩
theorem d12_errs_63 : jd cX12_errs 63 (.dup) 1 64 := by decide +kernel
theorem d12_errs_64 : jd cX12_errs 64 (.getfield 296) 3 67 := by decide +kernel
theorem d12_errs_67 : jdk cX12_errs 67 1 68 := Or.inl ⟨1, by decide +kernel⟩
theorem d12_errs_68 : jd cX12_errs 68 (.iadd) 1 69 := by decide +kernel
theorem d12_errs_69 : jd cX12_errs 69 (.putfield 296) 3 72 := by decide +kernel
theorem d12_errs_72 : decode cX12_errs 72 = .ok (.return_, 1) := by decide +kernel
set_option maxHeartbeats 4000000 in
set_option maxRecDepth 100000 in
theorem kX12_errs (l : Launch) (D : va_G) (tc : jTC) (h_ h_stack h_errorAts h_errorKinds h_errorTops : Nat) (g_rules g_lefts g_sizes g_rights g_edits g_pastRules g_pastLefts g_pastSizes g_pastRights g_levels g_codes g_details g_asked g_isWorked g_empties g_firsts g_follows g_isKept g_keptEmpties g_keptFirsts g_keptFollows g_strings g_longs g_trial g_trialLong g_foundName g_foundToken g_foundP g_foundQ g_moved g_movedSizes g_synchronizing g_input g_inputLong g_stackParents g_traced g_traces g_nodes g_made g_nodeSymbols g_nodeParents g_weights g_bests g_bestLongs g_partly g_partlyLongs g_repaired g_repairedLong : Value) (c_stack : (Nat → Int32)) (c_top : Int32) (c_at : Int32) (c_steps : Int32) (c_errors : Int32) (c_errorAts : (Nat → Int32)) (c_errorKinds : (Nat → Int32)) (c_errorTops : (Nat → Int32)) (p1 : Int32) : ctV l D tc yX12_errs (Cond.code yX12_errs cX12_errs 2 none :: jtb) ({ frames := 0, cells := 0, slots := 0, locals := 0 } : Room) [.ref h_, .int p1] [(h_, .inr (12, [g_rules, g_lefts, g_sizes, g_rights, g_edits, g_pastRules, g_pastLefts, g_pastSizes, g_pastRights, g_levels, g_codes, g_details, g_asked, g_isWorked, g_empties, g_firsts, g_follows, g_isKept, g_keptEmpties, g_keptFirsts, g_keptFollows, g_strings, g_longs, g_trial, g_trialLong, g_foundName, g_foundToken, g_foundP, g_foundQ, g_moved, g_movedSizes, g_synchronizing, g_input, g_inputLong, .ref h_stack, g_stackParents, .int c_top, .int c_at, .int c_steps, g_traced, g_traces, g_nodes, g_made, g_nodeSymbols, g_nodeParents, .int c_errors, .ref h_errorAts, .ref h_errorKinds, .ref h_errorTops, g_weights, g_bests, g_bestLongs, g_partly, g_partlyLongs, g_repaired, g_repairedLong])), (h_stack, .inl (tc.1, 66, .inl c_stack)), (h_errorAts, .inl (tc.1, 300, .inl c_errorAts)), (h_errorKinds, .inl (tc.1, 300, .inl c_errorKinds)), (h_errorTops, .inl (tc.1, 300, .inl c_errorTops))] (fX12_errs c_stack c_top c_at c_steps c_errors c_errorAts c_errorKinds c_errorTops p1) (fun (u : Int32 × Int32 × (Nat → Int32) × (Nat → Int32) × (Nat → Int32)) => [(h_, .inr (12, [g_rules, g_lefts, g_sizes, g_rights, g_edits, g_pastRules, g_pastLefts, g_pastSizes, g_pastRights, g_levels, g_codes, g_details, g_asked, g_isWorked, g_empties, g_firsts, g_follows, g_isKept, g_keptEmpties, g_keptFirsts, g_keptFollows, g_strings, g_longs, g_trial, g_trialLong, g_foundName, g_foundToken, g_foundP, g_foundQ, g_moved, g_movedSizes, g_synchronizing, g_input, g_inputLong, .ref h_stack, g_stackParents, .int c_top, .int c_at, .int u.1, g_traced, g_traces, g_nodes, g_made, g_nodeSymbols, g_nodeParents, .int u.2.1, .ref h_errorAts, .ref h_errorKinds, .ref h_errorTops, g_weights, g_bests, g_bestLongs, g_partly, g_partlyLongs, g_repaired, g_repairedLong])), (h_stack, .inl (tc.1, 66, .inl c_stack)), (h_errorAts, .inl (tc.1, 300, .inl u.2.2.1)), (h_errorKinds, .inl (tc.1, 300, .inl u.2.2.2.1)), (h_errorTops, .inl (tc.1, 300, .inl u.2.2.2.2))]) := by
  refine ctV_of (lv0 := [(0, .ref h_), (1, .int p1)]) (by decide +kernel) (Nat.le_of_ble_eq_true rfl) rfl (fun X C => ?_)
  unfold fX12_errs
  refine j_aload C d12_errs_0 0 rfl ?_
  refine j_get C d12_errs_1 fl12_88 0 rfl rfl ?_
  refine j_aload C d12_errs_4 0 rfl ?_
  refine j_get C d12_errs_5 fl12_332 0 rfl rfl ?_
  refine j_aload C d12_errs_8 0 rfl ?_
  refine j_get C d12_errs_9 fl12_293 0 rfl rfl ?_
  refine j_iast C (fun f1 => [(h_, .inr (12, [g_rules, g_lefts, g_sizes, g_rights, g_edits, g_pastRules, g_pastLefts, g_pastSizes, g_pastRights, g_levels, g_codes, g_details, g_asked, g_isWorked, g_empties, g_firsts, g_follows, g_isKept, g_keptEmpties, g_keptFirsts, g_keptFollows, g_strings, g_longs, g_trial, g_trialLong, g_foundName, g_foundToken, g_foundP, g_foundQ, g_moved, g_movedSizes, g_synchronizing, g_input, g_inputLong, .ref h_stack, g_stackParents, .int c_top, .int c_at, .int c_steps, g_traced, g_traces, g_nodes, g_made, g_nodeSymbols, g_nodeParents, .int c_errors, .ref h_errorAts, .ref h_errorKinds, .ref h_errorTops, g_weights, g_bests, g_bestLongs, g_partly, g_partlyLongs, g_repaired, g_repairedLong])), (h_stack, .inl (tc.1, 66, .inl c_stack)), (h_errorAts, .inl (tc.1, 300, .inl f1)), (h_errorKinds, .inl (tc.1, 300, .inl c_errorKinds)), (h_errorTops, .inl (tc.1, 300, .inl c_errorTops))]) d12_errs_12 2 rfl (fun _ => rfl) (fun f1 => ?_)
  refine j_aload C d12_errs_13 0 rfl ?_
  refine j_get C d12_errs_14 fl12_91 0 rfl rfl ?_
  refine j_aload C d12_errs_17 0 rfl ?_
  refine j_get C d12_errs_18 fl12_332 0 rfl rfl ?_
  refine j_iload C d12_errs_21 1 rfl ?_
  refine j_iast C (fun f2 => [(h_, .inr (12, [g_rules, g_lefts, g_sizes, g_rights, g_edits, g_pastRules, g_pastLefts, g_pastSizes, g_pastRights, g_levels, g_codes, g_details, g_asked, g_isWorked, g_empties, g_firsts, g_follows, g_isKept, g_keptEmpties, g_keptFirsts, g_keptFollows, g_strings, g_longs, g_trial, g_trialLong, g_foundName, g_foundToken, g_foundP, g_foundQ, g_moved, g_movedSizes, g_synchronizing, g_input, g_inputLong, .ref h_stack, g_stackParents, .int c_top, .int c_at, .int c_steps, g_traced, g_traces, g_nodes, g_made, g_nodeSymbols, g_nodeParents, .int c_errors, .ref h_errorAts, .ref h_errorKinds, .ref h_errorTops, g_weights, g_bests, g_bestLongs, g_partly, g_partlyLongs, g_repaired, g_repairedLong])), (h_stack, .inl (tc.1, 66, .inl c_stack)), (h_errorAts, .inl (tc.1, 300, .inl f1)), (h_errorKinds, .inl (tc.1, 300, .inl f2)), (h_errorTops, .inl (tc.1, 300, .inl c_errorTops))]) d12_errs_22 3 rfl (fun _ => rfl) (fun f2 => ?_)
  refine j_aload C d12_errs_23 0 rfl ?_
  refine j_get C d12_errs_24 fl12_94 0 rfl rfl ?_
  refine j_aload C d12_errs_27 0 rfl ?_
  refine j_get C d12_errs_28 fl12_332 0 rfl rfl ?_
  refine j_iload C d12_errs_31 1 rfl ?_
  refine j_const C d12_errs_32 ?_
  refine j_join 51 (fun v3 => [(h_, .inr (12, [g_rules, g_lefts, g_sizes, g_rights, g_edits, g_pastRules, g_pastLefts, g_pastSizes, g_pastRights, g_levels, g_codes, g_details, g_asked, g_isWorked, g_empties, g_firsts, g_follows, g_isKept, g_keptEmpties, g_keptFirsts, g_keptFollows, g_strings, g_longs, g_trial, g_trialLong, g_foundName, g_foundToken, g_foundP, g_foundQ, g_moved, g_movedSizes, g_synchronizing, g_input, g_inputLong, .ref h_stack, g_stackParents, .int c_top, .int c_at, .int c_steps, g_traced, g_traces, g_nodes, g_made, g_nodeSymbols, g_nodeParents, .int c_errors, .ref h_errorAts, .ref h_errorKinds, .ref h_errorTops, g_weights, g_bests, g_bestLongs, g_partly, g_partlyLongs, g_repaired, g_repairedLong])), (h_stack, .inl (tc.1, 66, .inl c_stack)), (h_errorAts, .inl (tc.1, 300, .inl f1)), (h_errorKinds, .inl (tc.1, 300, .inl f2)), (h_errorTops, .inl (tc.1, 300, .inl c_errorTops))]) (fun v3 => [(0, .ref h_)]) (fun v3 => [.int v3, .int c_errors, .ref h_errorTops]) (fun v3 => ?_) (fun k7 hk7 => ?_)
  · refine j_iast C (fun f4 => [(h_, .inr (12, [g_rules, g_lefts, g_sizes, g_rights, g_edits, g_pastRules, g_pastLefts, g_pastSizes, g_pastRights, g_levels, g_codes, g_details, g_asked, g_isWorked, g_empties, g_firsts, g_follows, g_isKept, g_keptEmpties, g_keptFirsts, g_keptFollows, g_strings, g_longs, g_trial, g_trialLong, g_foundName, g_foundToken, g_foundP, g_foundQ, g_moved, g_movedSizes, g_synchronizing, g_input, g_inputLong, .ref h_stack, g_stackParents, .int c_top, .int c_at, .int c_steps, g_traced, g_traces, g_nodes, g_made, g_nodeSymbols, g_nodeParents, .int c_errors, .ref h_errorAts, .ref h_errorKinds, .ref h_errorTops, g_weights, g_bests, g_bestLongs, g_partly, g_partlyLongs, g_repaired, g_repairedLong])), (h_stack, .inl (tc.1, 66, .inl c_stack)), (h_errorAts, .inl (tc.1, 300, .inl f1)), (h_errorKinds, .inl (tc.1, 300, .inl f2)), (h_errorTops, .inl (tc.1, 300, .inl f4))]) d12_errs_51 4 rfl (fun _ => rfl) (fun f4 => ?_)
    refine j_aload C d12_errs_52 0 rfl ?_
    refine j_dup C d12_errs_53 rfl ?_
    refine j_get C d12_errs_54 fl12_332 0 rfl rfl ?_
    refine j_const C d12_errs_57 ?_
    refine j_iadd C d12_errs_58 ?_
    refine j_leti (fun x5 => ?_)
    refine j_putq C d12_errs_59 fq12_332 0 rfl rfl rfl (Nat.le_of_ble_eq_true rfl) (ws' := [(h_, .inr (12, [g_rules, g_lefts, g_sizes, g_rights, g_edits, g_pastRules, g_pastLefts, g_pastSizes, g_pastRights, g_levels, g_codes, g_details, g_asked, g_isWorked, g_empties, g_firsts, g_follows, g_isKept, g_keptEmpties, g_keptFirsts, g_keptFollows, g_strings, g_longs, g_trial, g_trialLong, g_foundName, g_foundToken, g_foundP, g_foundQ, g_moved, g_movedSizes, g_synchronizing, g_input, g_inputLong, .ref h_stack, g_stackParents, .int c_top, .int c_at, .int c_steps, g_traced, g_traces, g_nodes, g_made, g_nodeSymbols, g_nodeParents, .int x5, .ref h_errorAts, .ref h_errorKinds, .ref h_errorTops, g_weights, g_bests, g_bestLongs, g_partly, g_partlyLongs, g_repaired, g_repairedLong])), (h_stack, .inl (tc.1, 66, .inl c_stack)), (h_errorAts, .inl (tc.1, 300, .inl f1)), (h_errorKinds, .inl (tc.1, 300, .inl f2)), (h_errorTops, .inl (tc.1, 300, .inl f4))]) rfl ?_
    refine j_aload C d12_errs_62 0 rfl ?_
    refine j_dup C d12_errs_63 rfl ?_
    refine j_get C d12_errs_64 fl12_296 0 rfl rfl ?_
    refine j_const C d12_errs_67 ?_
    refine j_iadd C d12_errs_68 ?_
    refine j_leti (fun x6 => ?_)
    refine j_putq C d12_errs_69 fq12_296 0 rfl rfl rfl (Nat.le_of_ble_eq_true rfl) (ws' := [(h_, .inr (12, [g_rules, g_lefts, g_sizes, g_rights, g_edits, g_pastRules, g_pastLefts, g_pastSizes, g_pastRights, g_levels, g_codes, g_details, g_asked, g_isWorked, g_empties, g_firsts, g_follows, g_isKept, g_keptEmpties, g_keptFirsts, g_keptFollows, g_strings, g_longs, g_trial, g_trialLong, g_foundName, g_foundToken, g_foundP, g_foundQ, g_moved, g_movedSizes, g_synchronizing, g_input, g_inputLong, .ref h_stack, g_stackParents, .int c_top, .int c_at, .int x6, g_traced, g_traces, g_nodes, g_made, g_nodeSymbols, g_nodeParents, .int x5, .ref h_errorAts, .ref h_errorKinds, .ref h_errorTops, g_weights, g_bests, g_bestLongs, g_partly, g_partlyLongs, g_repaired, g_repairedLong])), (h_stack, .inl (tc.1, 66, .inl c_stack)), (h_errorAts, .inl (tc.1, 300, .inl f1)), (h_errorKinds, .inl (tc.1, 300, .inl f2)), (h_errorTops, .inl (tc.1, 300, .inl f4))]) rfl ?_
    exact j_vret C d12_errs_72 rfl
  · refine j_icmp_ne C d12_errs_33 ?_ ?_
    · refine j_aload C d12_errs_40 0 rfl ?_
      refine j_get C d12_errs_41 fl12_73 0 rfl rfl ?_
      refine j_aload C d12_errs_44 0 rfl ?_
      refine j_get C d12_errs_45 fl12_290 0 rfl rfl ?_
      refine j_const C d12_errs_48 ?_
      refine j_isub C d12_errs_49 ?_
      refine j_iald C d12_errs_50 1 rfl (fun x8 => ?_)
      exact j_sub [0] rfl (hk7 _)
    · refine j_const C d12_errs_36 ?_
      refine j_goto C d12_errs_37 ?_
      exact j_sub [0] rfl (hk7 _)

