theorem d12_errs_0 : jda cX12_errs 0 0 1 := Or.inl ⟨0, by decide +kernel⟩
theorem d12_errs_1 : jd cX12_errs 1 (.getfield 88) 3 4 := by decide +kernel
theorem d12_errs_4 : jda cX12_errs 4 0 5 := Or.inl ⟨0, by decide +kernel⟩
theorem d12_errs_5 : jd cX12_errs 5 (.getfield 332) 3 8 := by decide +kernel
theorem d12_errs_8 : jda cX12_errs 8 0 9 := Or.inl ⟨0, by decide +kernel⟩
theorem d12_errs_9 : jd cX12_errs 9 (.getfield 293) 3 12 := by decide +kernel
theorem d12_errs_12 : jd cX12_errs 12 (.iastore) 1 13 := by decide +kernel
theorem d12_errs_13 : jda cX12_errs 13 0 14 := Or.inl ⟨0, by decide +kernel⟩
theorem d12_errs_14 : jd cX12_errs 14 (.getfield 91) 3 17 := by decide +kernel
theorem d12_errs_17 : jda cX12_errs 17 0 18 := Or.inl ⟨0, by decide +kernel⟩
theorem d12_errs_18 : jd cX12_errs 18 (.getfield 332) 3 21 := by decide +kernel
theorem d12_errs_21 : jdi cX12_errs 21 1 22 := Or.inl ⟨1, by decide +kernel⟩
theorem d12_errs_22 : jd cX12_errs 22 (.iastore) 1 23 := by decide +kernel
theorem d12_errs_23 : jda cX12_errs 23 0 24 := Or.inl ⟨0, by decide +kernel⟩
theorem d12_errs_24 : jd cX12_errs 24 (.getfield 94) 3 27 := by decide +kernel
theorem d12_errs_27 : jda cX12_errs 27 0 28 := Or.inl ⟨0, by decide +kernel⟩
theorem d12_errs_28 : jd cX12_errs 28 (.getfield 332) 3 31 := by decide +kernel
theorem d12_errs_31 : jdi cX12_errs 31 1 32 := Or.inl ⟨1, by decide +kernel⟩
theorem d12_errs_32 : jdk cX12_errs 32 3 33 := Or.inl ⟨3, by decide +kernel⟩
theorem d12_errs_33 : jdb cX12_errs 33 (.if_icmp .ne 7) 7 40 36 := by decide +kernel
theorem d12_errs_36 : jdk cX12_errs 36 (-1) 37 := Or.inl ⟨(-1), by decide +kernel⟩
theorem d12_errs_37 : jdb cX12_errs 37 (.goto 14) 14 51 40 := by decide +kernel
theorem d12_errs_40 : jda cX12_errs 40 0 41 := Or.inl ⟨0, by decide +kernel⟩
theorem d12_errs_41 : jd cX12_errs 41 (.getfield 73) 3 44 := by decide +kernel
theorem d12_errs_44 : jda cX12_errs 44 0 45 := Or.inl ⟨0, by decide +kernel⟩
theorem d12_errs_45 : jd cX12_errs 45 (.getfield 290) 3 48 := by decide +kernel
theorem d12_errs_48 : jdk cX12_errs 48 1 49 := Or.inl ⟨1, by decide +kernel⟩
theorem d12_errs_49 : jd cX12_errs 49 (.isub) 1 50 := by decide +kernel
theorem d12_errs_50 : jd cX12_errs 50 (.iaload) 1 51 := by decide +kernel
theorem d12_errs_51 : jd cX12_errs 51 (.iastore) 1 52 := by decide +kernel
theorem d12_errs_52 : jda cX12_errs 52 0 53 := Or.inl ⟨0, by decide +kernel⟩
theorem d12_errs_53 : jd cX12_errs 53 (.dup) 1 54 := by decide +kernel
theorem d12_errs_54 : jd cX12_errs 54 (.getfield 332) 3 57 := by decide +kernel
theorem d12_errs_57 : jdk cX12_errs 57 1 58 := Or.inl ⟨1, by decide +kernel⟩
theorem d12_errs_58 : jd cX12_errs 58 (.iadd) 1 59 := by decide +kernel
theorem d12_errs_59 : jd cX12_errs 59 (.putfield 332) 3 62 := by decide +kernel
theorem d12_errs_62 : jda cX12_errs 62 0 63 := Or.inl ⟨0, by decide +kernel⟩
theorem d12_errs_63 : jd cX12_errs 63 (.dup) 1 64 := by decide +kernel
theorem d12_errs_64 : jd cX12_errs 64 (.getfield 296) 3 67 := by decide +kernel
theorem d12_errs_67 : jdk cX12_errs 67 1 68 := Or.inl ⟨1, by decide +kernel⟩
theorem d12_errs_68 : jd cX12_errs 68 (.iadd) 1 69 := by decide +kernel
theorem d12_errs_69 : jd cX12_errs 69 (.putfield 296) 3 72 := by decide +kernel
theorem d12_errs_72 : decode cX12_errs 72 = .ok (.return_, 1) := by decide +kernel
set_option maxHeartbeats 4000000 in
set_option maxRecDepth 100000 in
theorem kX12_errs (l : Launch) (D : va_G) (tc : jTC) (h_ h_stack h_errorAts h_errorKinds h_errorTops : Nat) (g_rules g_lefts g_sizes g_rights g_edits g_pastRules g_pastLefts g_pastSizes g_pastRights g_levels g_codes g_details g_asked g_isWorked g_empties g_firsts g_follows g_isKept g_keptEmpties g_keptFirsts g_keptFollows g_strings g_longs g_trial g_trialLong g_foundName g_foundToken g_foundP g_foundQ g_moved g_movedSizes g_synchronizing g_input g_inputLong g_stackParents g_traced g_traces g_nodes g_made g_nodeSymbols g_nodeParents g_weights g_bests g_bestLongs g_partly g_partlyLongs g_repaired g_repairedLong : Value) (c_stack : (Nat → Int32)) (c_top : Int32) (c_at : Int32) (c_steps : Int32) (c_errors : Int32) (c_errorAts : (Nat → Int32)) (c_errorKinds : (Nat → Int32)) (c_errorTops : (Nat → Int32)) (p1 : Int32) : ctV l D tc yX12_errs (Cond.code yX12_errs cX12_errs 2 none :: jtb) ({ frames := 0, cells := 0, slots := 0, locals := 0 } : Room) [.ref h_, .int p1] [(h_, .inr (12, [g_rules, g_lefts, g_sizes, g_rights, g_edits, g_pastRules, g_pastLefts, g_pastSizes, g_pastRights, g_levels, g_codes, g_details, g_asked, g_isWorked, g_empties, g_firsts, g_follows, g_isKept, g_keptEmpties, g_keptFirsts, g_keptFollows, g_strings, g_longs, g_trial, g_trialLong, g_foundName, g_foundToken, g_foundP, g_foundQ, g_moved, g_movedSizes, g_synchronizing, g_input, g_inputLong, .ref h_stack, g_stackParents, .int c_top, .int c_at, .int c_steps, g_traced, g_traces, g_nodes, g_made, g_nodeSymbols, g_nodeParents, .int c_errors, .ref h_errorAts, .ref h_errorKinds, .ref h_errorTops, g_weights, g_bests, g_bestLongs, g_partly, g_partlyLongs, g_repaired, g_repairedLong])), (h_stack, .inl (tc.1, 66, .inl c_stack)), (h_errorAts, .inl (tc.1, 300, .inl c_errorAts)), (h_errorKinds, .inl (tc.1, 300, .inl c_errorKinds)), (h_errorTops, .inl (tc.1, 300, .inl c_errorTops))] (fX12_errs c_stack c_top c_at c_steps c_errors c_errorAts c_errorKinds c_errorTops p1) (fun (u : Int32 × Int32 × (Nat → Int32) × (Nat → Int32) × (Nat → Int32)) => [(h_, .inr (12, [g_rules, g_lefts, g_sizes, g_rights, g_edits, g_pastRules, g_pastLefts, g_pastSizes, g_pastRights, g_levels, g_codes, g_details, g_asked, g_isWorked, g_empties, g_firsts, g_follows, g_isKept, g_keptEmpties, g_keptFirsts, g_keptFollows, g_strings, g_longs, g_trial, g_trialLong, g_foundName, g_foundToken, g_foundP, g_foundQ, g_moved, g_movedSizes, g_synchronizing, g_input, g_inputLong, .ref h_stack, g_stackParents, .int c_top, .int c_at, .int u.1, g_traced, g_traces, g_nodes, g_made, g_nodeSymbols, g_nodeParents, .int u.2.1, .ref h_errorAts, .ref h_errorKinds, .ref h_errorTops, g_weights, g_bests, g_bestLongs, g_partly, g_partlyLongs, g_repaired, g_repairedLong])), (h_stack, .inl (tc.1, 66, .inl c_stack)), (h_errorAts, .inl (tc.1, 300, .inl u.2.2.1)), (h_errorKinds, .inl (tc.1, 300, .inl u.2.2.2.1)), (h_errorTops, .inl (tc.1, 300, .inl u.2.2.2.2))]) := by
  refine ctV_of (lv0 := [(0, .ref h_), (1, .int p1)]) (by decide +kernel) (Nat.le_of_ble_eq_true rfl) rfl (fun X C => ?_)
  unfold fX12_errs
  refine j_aload C d12_errs_0 0 rfl ?_
  refine j_get C d12_errs_1 fl12_88 0 rfl rfl ?_
  refine j_aload C d12_errs_4 0 rfl ?_
  refine j_get C d12_errs_5 fl12_332 0 rfl rfl ?_
  refine j_aload C d12_errs_8 0 rfl ?_
  refine j_get C d12_errs_9 fl12_293 0 rfl rfl ?_
  refine j_iast C (fun f1 => [(h_, .inr (12, [g_rules, g_lefts, g_sizes, g_rights, g_edits, g_pastRules, g_pastLefts, g_pastSizes, g_pastRights, g_levels, g_codes, g_details, g_asked, g_isWorked, g_empties, g_firsts, g_follows, g_isKept, g_keptEmpties, g_keptFirsts, g_keptFollows, g_strings, g_longs, g_trial, g_trialLong, g_foundName, g_foundToken, g_foundP, g_foundQ, g_moved, g_movedSizes, g_synchronizing, g_input, g_inputLong, .ref h_stack, g_stackParents, .int c_top, .int c_at, .int c_steps, g_traced, g_traces, g_nodes, g_made, g_nodeSymbols, g_nodeParents, .int c_errors, .ref h_errorAts, .ref h_errorKinds, .ref h_errorTops, g_weights, g_bests, g_bestLongs, g_partly, g_partlyLongs, g_repaired, g_repairedLong])), (h_stack, .inl (tc.1, 66, .inl c_stack)), (h_errorAts, .inl (tc.1, 300, .inl f1)), (h_errorKinds, .inl (tc.1, 300, .inl c_errorKinds)), (h_errorTops, .inl (tc.1, 300, .inl c_errorTops))]) d12_errs_12 2 rfl (fun _ => rfl) (fun f1 => ?_)
  refine j_aload C d12_errs_13 0 rfl ?_
  refine j_get C d12_errs_14 fl12_91 0 rfl rfl ?_
  refine j_aload C d12_errs_17 0 rfl ?_
  refine j_get C d12_errs_18 fl12_332 0 rfl rfl ?_
  refine j_iload C d12_errs_21 1 rfl ?_
  refine j_iast C (fun f2 => [(h_, .inr (12, [g_rules, g_lefts, g_sizes, g_rights, g_edits, g_pastRules, g_pastLefts, g_pastSizes, g_pastRights, g_levels, g_codes, g_details, g_asked, g_isWorked, g_empties, g_firsts, g_follows, g_isKept, g_keptEmpties, g_keptFirsts, g_keptFollows, g_strings, g_longs, g_trial, g_trialLong, g_foundName, g_foundToken, g_foundP, g_foundQ, g_moved, g_movedSizes, g_synchronizing, g_input, g_inputLong, .ref h_stack, g_stackParents, .int c_top, .int c_at, .int c_steps, g_traced, g_traces, g_nodes, g_made, g_nodeSymbols, g_nodeParents, .int c_errors, .ref h_errorAts, .ref h_errorKinds, .ref h_errorTops, g_weights, g_bests, g_bestLongs, g_partly, g_partlyLongs, g_repaired, g_repairedLong])), (h_stack, .inl (tc.1, 66, .inl c_stack)), (h_errorAts, .inl (tc.1, 300, .inl f1)), (h_errorKinds, .inl (tc.1, 300, .inl f2)), (h_errorTops, .inl (tc.1, 300, .inl c_errorTops))]) d12_errs_22 3 rfl (fun _ => rfl) (fun f2 => ?_)
  refine j_aload C d12_errs_23 0 rfl ?_
  refine j_get C d12_errs_24 fl12_94 0 rfl rfl ?_
  refine j_aload C d12_errs_27 0 rfl ?_
  refine j_get C d12_errs_28 fl12_332 0 rfl rfl ?_
  refine j_iload C d12_errs_31 1 rfl ?_
  refine j_const C d12_errs_32 ?_
  refine j_join 51 (fun v3 => [(h_, .inr (12, [g_rules, g_lefts, g_sizes, g_rights, g_edits, g_pastRules, g_pastLefts, g_pastSizes, g_pastRights, g_levels, g_codes, g_details, g_asked, g_isWorked, g_empties, g_firsts, g_follows, g_isKept, g_keptEmpties, g_keptFirsts, g_keptFollows, g_strings, g_longs, g_trial, g_trialLong, g_foundName, g_foundToken, g_foundP, g_foundQ, g_moved, g_movedSizes, g_synchronizing, g_input, g_inputLong, .ref h_stack, g_stackParents, .int c_top, .int c_at, .int c_steps, g_traced, g_traces, g_nodes, g_made, g_nodeSymbols, g_nodeParents, .int c_errors, .ref h_errorAts, .ref h_errorKinds, .ref h_errorTops, g_weights, g_bests, g_bestLongs, g_partly, g_partlyLongs, g_repaired, g_repairedLong])), (h_stack, .inl (tc.1, 66, .inl c_stack)), (h_errorAts, .inl (tc.1, 300, .inl f1)), (h_errorKinds, .inl (tc.1, 300, .inl f2)), (h_errorTops, .inl (tc.1, 300, .inl c_errorTops))]) (fun v3 => [(0, .ref h_)]) (fun v3 => [.int v3, .int c_errors, .ref h_errorTops]) (fun v3 => ?_) (fun k7 hk7 => ?_)
  · refine j_iast C (fun f4 => [(h_, .inr (12, [g_rules, g_lefts, g_sizes, g_rights, g_edits, g_pastRules, g_pastLefts, g_pastSizes, g_pastRights, g_levels, g_codes, g_details, g_asked, g_isWorked, g_empties, g_firsts, g_follows, g_isKept, g_keptEmpties, g_keptFirsts, g_keptFollows, g_strings, g_longs, g_trial, g_trialLong, g_foundName, g_foundToken, g_foundP, g_foundQ, g_moved, g_movedSizes, g_synchronizing, g_input, g_inputLong, .ref h_stack, g_stackParents, .int c_top, .int c_at, .int c_steps, g_traced, g_traces, g_nodes, g_made, g_nodeSymbols, g_nodeParents, .int c_errors, .ref h_errorAts, .ref h_errorKinds, .ref h_errorTops, g_weights, g_bests, g_bestLongs, g_partly, g_partlyLongs, g_repaired, g_repairedLong])), (h_stack, .inl (tc.1, 66, .inl c_stack)), (h_errorAts, .inl (tc.1, 300, .inl f1)), (h_errorKinds, .inl (tc.1, 300, .inl f2)), (h_errorTops, .inl (tc.1, 300, .inl f4))]) d12_errs_51 4 rfl (fun _ => rfl) (fun f4 => ?_)
    refine j_aload C d12_errs_52 0 rfl ?_
    refine j_dup C d12_errs_53 rfl ?_
    refine j_get C d12_errs_54 fl12_332 0 rfl rfl ?_
    refine j_const C d12_errs_57 ?_
    refine j_iadd C d12_errs_58 ?_
    refine j_leti (fun x5 => ?_)
    refine j_putq C d12_errs_59 fq12_332 0 rfl rfl rfl (Nat.le_of_ble_eq_true rfl) (ws' := [(h_, .inr (12, [g_rules, g_lefts, g_sizes, g_rights, g_edits, g_pastRules, g_pastLefts, g_pastSizes, g_pastRights, g_levels, g_codes, g_details, g_asked, g_isWorked, g_empties, g_firsts, g_follows, g_isKept, g_keptEmpties, g_keptFirsts, g_keptFollows, g_strings, g_longs, g_trial, g_trialLong, g_foundName, g_foundToken, g_foundP, g_foundQ, g_moved, g_movedSizes, g_synchronizing, g_input, g_inputLong, .ref h_stack, g_stackParents, .int c_top, .int c_at, .int c_steps, g_traced, g_traces, g_nodes, g_made, g_nodeSymbols, g_nodeParents, .int x5, .ref h_errorAts, .ref h_errorKinds, .ref h_errorTops, g_weights, g_bests, g_bestLongs, g_partly, g_partlyLongs, g_repaired, g_repairedLong])), (h_stack, .inl (tc.1, 66, .inl c_stack)), (h_errorAts, .inl (tc.1, 300, .inl f1)), (h_errorKinds, .inl (tc.1, 300, .inl f2)), (h_errorTops, .inl (tc.1, 300, .inl f4))]) rfl ?_
    refine j_aload C d12_errs_62 0 rfl ?_
    refine j_dup C d12_errs_63 rfl ?_
    refine j_get C d12_errs_64 fl12_296 0 rfl rfl ?_
    refine j_const C d12_errs_67 ?_
    refine j_iadd C d12_errs_68 ?_
    refine j_leti (fun x6 => ?_)
    refine j_putq C d12_errs_69 fq12_296 0 rfl rfl rfl (Nat.le_of_ble_eq_true rfl) (ws' := [(h_, .inr (12, [g_rules, g_lefts, g_sizes, g_rights, g_edits, g_pastRules, g_pastLefts, g_pastSizes, g_pastRights, g_levels, g_codes, g_details, g_asked, g_isWorked, g_empties, g_firsts, g_follows, g_isKept, g_keptEmpties, g_keptFirsts, g_keptFollows, g_strings, g_longs, g_trial, g_trialLong, g_foundName, g_foundToken, g_foundP, g_foundQ, g_moved, g_movedSizes, g_synchronizing, g_input, g_inputLong, .ref h_stack, g_stackParents, .int c_top, .int c_at, .int x6, g_traced, g_traces, g_nodes, g_made, g_nodeSymbols, g_nodeParents, .int x5, .ref h_errorAts, .ref h_errorKinds, .ref h_errorTops, g_weights, g_bests, g_bestLongs, g_partly, g_partlyLongs, g_repaired, g_repairedLong])), (h_stack, .inl (tc.1, 66, .inl c_stack)), (h_errorAts, .inl (tc.1, 300, .inl f1)), (h_errorKinds, .inl (tc.1, 300, .inl f2)), (h_errorTops, .inl (tc.1, 300, .inl f4))]) rfl ?_
    exact j_vret C d12_errs_72 rfl
  · refine j_icmp_ne C d12_errs_33 ?_ ?_
    · refine j_aload C d12_errs_40 0 rfl ?_
      refine j_get C d12_errs_41 fl12_73 0 rfl rfl ?_
      refine j_aload C d12_errs_44 0 rfl ?_
      refine j_get C d12_errs_45 fl12_290 0 rfl rfl ?_
      refine j_const C d12_errs_48 ?_
      refine j_isub C d12_errs_49 ?_
      refine j_iald C d12_errs_50 1 rfl (fun x8 => ?_)
      exact j_sub [0] rfl (hk7 _)
    · refine j_const C d12_errs_36 ?_
      refine j_goto C d12_errs_37 ?_
      exact j_sub [0] rfl (hk7 _)

theorem d12_recover_0 : jda cX12_recover 0 0 1 := Or.inl ⟨0, by decide +kernel⟩
theorem d12_recover_1 : jd cX12_recover 1 (.invokevirtual 311) 3 4 := by decide +kernel
theorem d12_recover_4 : jda cX12_recover 4 0 5 := Or.inl ⟨0, by decide +kernel⟩
theorem d12_recover_5 : jdk cX12_recover 5 0 6 := Or.inl ⟨0, by decide +kernel⟩
theorem d12_recover_6 : jd cX12_recover 6 (.putfield 332) 3 9 := by decide +kernel
theorem d12_recover_9 : jda cX12_recover 9 0 10 := Or.inl ⟨0, by decide +kernel⟩
theorem d12_recover_10 : jd cX12_recover 10 (.invokevirtual 314) 3 13 := by decide +kernel
theorem d12_recover_13 : jdb cX12_recover 13 (.ifCond .ne 174) 174 187 16 := by decide +kernel
theorem d12_recover_16 : jda cX12_recover 16 0 17 := Or.inl ⟨0, by decide +kernel⟩
theorem d12_recover_17 : jd cX12_recover 17 (.getfield 296) 3 20 := by decide +kernel
theorem d12_recover_20 : jdk cX12_recover 20 300 23 := Or.inr (Or.inr ⟨300, by decide +kernel⟩)
theorem d12_recover_23 : jdb cX12_recover 23 (.if_icmp .ne 6) 6 29 26 := by decide +kernel
theorem d12_recover_26 : jdk cX12_recover 26 (-6) 28 := Or.inr (Or.inl ⟨(-6), by decide +kernel⟩)
theorem d12_recover_28 : decode cX12_recover 28 = .ok (.ireturn, 1) := by decide +kernel
theorem d12_recover_29 : jda cX12_recover 29 0 30 := Or.inl ⟨0, by decide +kernel⟩
theorem d12_recover_30 : jd cX12_recover 30 (.invokevirtual 323) 3 33 := by decide +kernel
theorem d12_recover_33 : jdb cX12_recover 33 (.ifCond .eq 15) 15 48 36 := by decide +kernel
theorem d12_recover_36 : jda cX12_recover 36 0 37 := Or.inl ⟨0, by decide +kernel⟩
theorem d12_recover_37 : jd cX12_recover 37 (.getfield 290) 3 40 := by decide +kernel
theorem d12_recover_40 : jdk cX12_recover 40 60 42 := Or.inr (Or.inl ⟨60, by decide +kernel⟩)
theorem d12_recover_42 : jdb cX12_recover 42 (.if_icmp .le (-33)) (-33) 9 45 := by decide +kernel
theorem d12_recover_45 : jdk cX12_recover 45 (-6) 47 := Or.inr (Or.inl ⟨(-6), by decide +kernel⟩)
theorem d12_recover_47 : decode cX12_recover 47 = .ok (.ireturn, 1) := by decide +kernel
theorem d12_recover_48 : jda cX12_recover 48 0 49 := Or.inl ⟨0, by decide +kernel⟩
theorem d12_recover_49 : jd cX12_recover 49 (.getfield 290) 3 52 := by decide +kernel
theorem d12_recover_52 : jdb cX12_recover 52 (.ifCond .ne 19) 19 71 55 := by decide +kernel
theorem d12_recover_55 : jda cX12_recover 55 0 56 := Or.inl ⟨0, by decide +kernel⟩
theorem d12_recover_56 : jdk cX12_recover 56 3 57 := Or.inl ⟨3, by decide +kernel⟩
theorem d12_recover_57 : jd cX12_recover 57 (.invokevirtual 335) 3 60 := by decide +kernel
theorem d12_recover_60 : jda cX12_recover 60 0 61 := Or.inl ⟨0, by decide +kernel⟩
theorem d12_recover_61 : jda cX12_recover 61 0 62 := Or.inl ⟨0, by decide +kernel⟩
theorem d12_recover_62 : jd cX12_recover 62 (.getfield 287) 3 65 := by decide +kernel
theorem d12_recover_65 : jd cX12_recover 65 (.putfield 293) 3 68 := by decide +kernel
theorem d12_recover_68 : jdb cX12_recover 68 (.goto (-59)) (-59) 9 71 := by decide +kernel
theorem d12_recover_71 : jda cX12_recover 71 0 72 := Or.inl ⟨0, by decide +kernel⟩
theorem d12_recover_72 : jd cX12_recover 72 (.getfield 73) 3 75 := by decide +kernel
theorem d12_recover_75 : jda cX12_recover 75 0 76 := Or.inl ⟨0, by decide +kernel⟩
theorem d12_recover_76 : jd cX12_recover 76 (.getfield 290) 3 79 := by decide +kernel
theorem d12_recover_79 : jdk cX12_recover 79 1 80 := Or.inl ⟨1, by decide +kernel⟩
theorem d12_recover_80 : jd cX12_recover 80 (.isub) 1 81 := by decide +kernel
theorem d12_recover_81 : jd cX12_recover 81 (.iaload) 1 82 := by decide +kernel
theorem d12_recover_82 : jds cX12_recover 82 1 83 := Or.inl ⟨1, by decide +kernel⟩
theorem d12_recover_83 : jdi cX12_recover 83 1 84 := Or.inl ⟨1, by decide +kernel⟩
theorem d12_recover_84 : jdk cX12_recover 84 10 86 := Or.inr (Or.inl ⟨10, by decide +kernel⟩)
theorem d12_recover_86 : jdb cX12_recover 86 (.if_icmp .lt 42) 42 128 89 := by decide +kernel
theorem d12_recover_89 : jda cX12_recover 89 0 90 := Or.inl ⟨0, by decide +kernel⟩
theorem d12_recover_90 : jd cX12_recover 90 (.invokevirtual 308) 3 93 := by decide +kernel
theorem d12_recover_93 : jdk cX12_recover 93 8 95 := Or.inr (Or.inl ⟨8, by decide +kernel⟩)
theorem d12_recover_95 : jdb cX12_recover 95 (.if_icmp .eq 33) 33 128 98 := by decide +kernel
theorem d12_recover_98 : jda cX12_recover 98 0 99 := Or.inl ⟨0, by decide +kernel⟩
theorem d12_recover_99 : jd cX12_recover 99 (.getfield 43) 3 102 := by decide +kernel
theorem d12_recover_102 : jdi cX12_recover 102 1 103 := Or.inl ⟨1, by decide +kernel⟩
theorem d12_recover_103 : jdk cX12_recover 103 10 105 := Or.inr (Or.inl ⟨10, by decide +kernel⟩)
theorem d12_recover_105 : jd cX12_recover 105 (.isub) 1 106 := by decide +kernel
theorem d12_recover_106 : jd cX12_recover 106 (.iaload) 1 107 := by decide +kernel
theorem d12_recover_107 : jda cX12_recover 107 0 108 := Or.inl ⟨0, by decide +kernel⟩
theorem d12_recover_108 : jd cX12_recover 108 (.getfield 67) 3 111 := by decide +kernel
theorem d12_recover_111 : jdi cX12_recover 111 1 112 := Or.inl ⟨1, by decide +kernel⟩
theorem d12_recover_112 : jdk cX12_recover 112 10 114 := Or.inr (Or.inl ⟨10, by decide +kernel⟩)
theorem d12_recover_114 : jd cX12_recover 114 (.isub) 1 115 := by decide +kernel
theorem d12_recover_115 : jd cX12_recover 115 (.iaload) 1 116 := by decide +kernel
theorem d12_recover_116 : jd cX12_recover 116 (.ior) 1 117 := by decide +kernel
theorem d12_recover_117 : jda cX12_recover 117 0 118 := Or.inl ⟨0, by decide +kernel⟩
theorem d12_recover_118 : jd cX12_recover 118 (.invokevirtual 308) 3 121 := by decide +kernel
theorem d12_recover_121 : jd cX12_recover 121 (.ishr) 1 122 := by decide +kernel
theorem d12_recover_122 : jdk cX12_recover 122 1 123 := Or.inl ⟨1, by decide +kernel⟩
theorem d12_recover_123 : jd cX12_recover 123 (.iand) 1 124 := by decide +kernel
theorem d12_recover_124 : jdk cX12_recover 124 1 125 := Or.inl ⟨1, by decide +kernel⟩
theorem d12_recover_125 : jdb cX12_recover 125 (.if_icmp .ne 7) 7 132 128 := by decide +kernel
theorem d12_recover_128 : jdk cX12_recover 128 1 129 := Or.inl ⟨1, by decide +kernel⟩
theorem d12_recover_129 : jdb cX12_recover 129 (.goto 4) 4 133 132 := by decide +kernel
theorem d12_recover_132 : jdk cX12_recover 132 0 133 := Or.inl ⟨0, by decide +kernel⟩
theorem d12_recover_133 : jds cX12_recover 133 2 134 := Or.inl ⟨2, by decide +kernel⟩
theorem d12_recover_134 : jda cX12_recover 134 0 135 := Or.inl ⟨0, by decide +kernel⟩
theorem d12_recover_135 : jdi cX12_recover 135 1 136 := Or.inl ⟨1, by decide +kernel⟩
theorem d12_recover_136 : jdk cX12_recover 136 10 138 := Or.inr (Or.inl ⟨10, by decide +kernel⟩)
theorem d12_recover_138 : jdb cX12_recover 138 (.if_icmp .ge 7) 7 145 141 := by decide +kernel
theorem d12_recover_141 : jdk cX12_recover 141 0 142 := Or.inl ⟨0, by decide +kernel⟩
theorem d12_recover_142 : jdb cX12_recover 142 (.goto 12) 12 154 145 := by decide +kernel
theorem d12_recover_145 : jdi cX12_recover 145 2 146 := Or.inl ⟨2, by decide +kernel⟩
theorem d12_recover_146 : jdb cX12_recover 146 (.ifCond .eq 7) 7 153 149 := by decide +kernel
theorem d12_recover_149 : jdk cX12_recover 149 1 150 := Or.inl ⟨1, by decide +kernel⟩
theorem d12_recover_150 : jdb cX12_recover 150 (.goto 4) 4 154 153 := by decide +kernel
theorem d12_recover_153 : jdk cX12_recover 153 2 154 := Or.inl ⟨2, by decide +kernel⟩
theorem d12_recover_154 : jd cX12_recover 154 (.invokevirtual 335) 3 157 := by decide +kernel
theorem d12_recover_157 : jdi cX12_recover 157 2 158 := Or.inl ⟨2, by decide +kernel⟩
theorem d12_recover_158 : jdb cX12_recover 158 (.ifCond .eq 16) 16 174 161 := by decide +kernel
theorem d12_recover_161 : jda cX12_recover 161 0 162 := Or.inl ⟨0, by decide +kernel⟩
theorem d12_recover_162 : jd cX12_recover 162 (.dup) 1 163 := by decide +kernel
theorem d12_recover_163 : jd cX12_recover 163 (.getfield 290) 3 166 := by decide +kernel
theorem d12_recover_166 : jdk cX12_recover 166 1 167 := Or.inl ⟨1, by decide +kernel⟩
theorem d12_recover_167 : jd cX12_recover 167 (.isub) 1 168 := by decide +kernel
theorem d12_recover_168 : jd cX12_recover 168 (.putfield 290) 3 171 := by decide +kernel
theorem d12_recover_171 : jdb cX12_recover 171 (.goto 13) 13 184 174 := by decide +kernel
theorem d12_recover_174 : jda cX12_recover 174 0 175 := Or.inl ⟨0, by decide +kernel⟩
theorem d12_recover_175 : jd cX12_recover 175 (.dup) 1 176 := by decide +kernel
theorem d12_recover_176 : jd cX12_recover 176 (.getfield 293) 3 179 := by decide +kernel
theorem d12_recover_179 : jdk cX12_recover 179 1 180 := Or.inl ⟨1, by decide +kernel⟩
theorem d12_recover_180 : jd cX12_recover 180 (.iadd) 1 181 := by decide +kernel
theorem d12_recover_181 : jd cX12_recover 181 (.putfield 293) 3 184 := by decide +kernel
theorem d12_recover_184 : jdb cX12_recover 184 (.goto (-175)) (-175) 9 187 := by decide +kernel
theorem d12_recover_187 : jda cX12_recover 187 0 188 := Or.inl ⟨0, by decide +kernel⟩
theorem d12_recover_188 : jd cX12_recover 188 (.getfield 332) 3 191 := by decide +kernel
theorem d12_recover_191 : decode cX12_recover 191 = .ok (.ireturn, 1) := by decide +kernel
set_option maxHeartbeats 4000000 in
set_option maxRecDepth 100000 in
theorem wX12_recover_9 {X : jC} {tc : jTC} (C : jx X cX12_recover 3 RX12 (some .int) tc ({ frames := 6, cells := 0, slots := 0, locals := 130 } : Room)) (N : Nat) (h_ h_lefts h_sizes h_rights h_firsts h_follows h_strings h_longs h_trial h_synchronizing h_input h_stack h_stackParents h_traces h_nodeSymbols h_nodeParents h_errorAts h_errorKinds h_errorTops : Nat) (g_edits g_pastRules g_pastLefts g_pastSizes g_pastRights g_levels g_codes g_details g_asked g_isKept g_keptEmpties g_keptFirsts g_keptFollows g_foundName g_foundToken g_foundP g_foundQ g_moved g_movedSizes g_weights g_bests g_bestLongs g_partly g_partlyLongs g_repaired g_repairedLong : Value) (c_rules : Int32) (c_lefts : (Nat → Int32)) (c_sizes : (Nat → Int32)) (c_rights : (Nat → Int32)) (c_synchronizing : (Nat → Int32)) (c_input : (Nat → Int32)) (c_inputLong : Int32) (o1 : Int32) (o2 : Int32) (o3 : (Nat → Int32)) (o4 : (Nat → Int32)) (o5 : (Nat → Int32)) (o6 : (Nat → Int32)) (o7 : (Nat → Int32)) (o8 : Int32) (o15 : Int32) (k31 : ((Nat → Int32) → (Nat → Int32) → Int32 → Int32 → Int32 → Int32 → (Nat → Int32) → Int32 → (Nat → Int32) → (Nat → Int32) → Int32 → (Nat → Int32) → (Nat → Int32) → (Nat → Int32) → Option (Int32 × Int32 × Int32 × (Nat → Int32) × (Nat → Int32) × (Nat → Int32) × (Nat → Int32) × (Nat → Int32) × Int32 × (Nat → Int32) × (Nat → Int32) × Int32 × Int32 × Int32 × Int32 × (Nat → Int32) × Int32 × Int32 × (Nat → Int32) × (Nat → Int32) × Int32 × (Nat → Int32) × (Nat → Int32) × (Nat → Int32)))) (hk31 : ∀ (v85 : (Nat → Int32)) (v86 : (Nat → Int32)) (v87 : Int32) (v88 : Int32) (v89 : Int32) (v90 : Int32) (v91 : (Nat → Int32)) (v92 : Int32) (v93 : (Nat → Int32)) (v94 : (Nat → Int32)) (v95 : Int32) (v96 : (Nat → Int32)) (v97 : (Nat → Int32)) (v98 : (Nat → Int32)), jo X 3 (0, 0) (jQI X (fun (u : Int32 × Int32 × (Nat → Int32) × (Nat → Int32) × (Nat → Int32) × (Nat → Int32) × (Nat → Int32) × Int32 × (Nat → Int32) × (Nat → Int32) × Int32 × Int32 × Int32 × Int32 × (Nat → Int32) × Int32 × Int32 × (Nat → Int32) × (Nat → Int32) × Int32 × (Nat → Int32) × (Nat → Int32) × (Nat → Int32)) => [(h_, .inr (12, [.int c_rules, .ref h_lefts, .ref h_sizes, .ref h_rights, g_edits, g_pastRules, g_pastLefts, g_pastSizes, g_pastRights, g_levels, g_codes, g_details, g_asked, .int u.1, .int u.2.1, .ref h_firsts, .ref h_follows, g_isKept, g_keptEmpties, g_keptFirsts, g_keptFollows, .ref h_strings, .ref h_longs, .ref h_trial, .int u.2.2.2.2.2.2.2.1, g_foundName, g_foundToken, g_foundP, g_foundQ, g_moved, g_movedSizes, .ref h_synchronizing, .ref h_input, .int c_inputLong, .ref h_stack, .ref h_stackParents, .int u.2.2.2.2.2.2.2.2.2.2.1, .int u.2.2.2.2.2.2.2.2.2.2.2.1, .int u.2.2.2.2.2.2.2.2.2.2.2.2.1, .int u.2.2.2.2.2.2.2.2.2.2.2.2.2.1, .ref h_traces, .int u.2.2.2.2.2.2.2.2.2.2.2.2.2.2.2.1, .int u.2.2.2.2.2.2.2.2.2.2.2.2.2.2.2.2.1, .ref h_nodeSymbols, .ref h_nodeParents, .int u.2.2.2.2.2.2.2.2.2.2.2.2.2.2.2.2.2.2.2.1, .ref h_errorAts, .ref h_errorKinds, .ref h_errorTops, g_weights, g_bests, g_bestLongs, g_partly, g_partlyLongs, g_repaired, g_repairedLong])), (h_lefts, .inl (tc.1, 24, .inl c_lefts)), (h_sizes, .inl (tc.1, 24, .inl c_sizes)), (h_rights, .inl (tc.1, 120, .inl c_rights)), (h_firsts, .inl (tc.1, 8, .inl u.2.2.1)), (h_follows, .inl (tc.1, 8, .inl u.2.2.2.1)), (h_strings, .inl (tc.1, 1280, .inl u.2.2.2.2.1)), (h_longs, .inl (tc.1, 32, .inl u.2.2.2.2.2.1)), (h_trial, .inl (tc.1, 40, .inl u.2.2.2.2.2.2.1)), (h_synchronizing, .inl (tc.1, 8, .inl c_synchronizing)), (h_input, .inl (tc.1, 40, .inl c_input)), (h_stack, .inl (tc.1, 66, .inl u.2.2.2.2.2.2.2.2.1)), (h_stackParents, .inl (tc.1, 66, .inl u.2.2.2.2.2.2.2.2.2.1)), (h_traces, .inl (tc.1, 300, .inl u.2.2.2.2.2.2.2.2.2.2.2.2.2.2.1)), (h_nodeSymbols, .inl (tc.1, 300, .inl u.2.2.2.2.2.2.2.2.2.2.2.2.2.2.2.2.2.1)), (h_nodeParents, .inl (tc.1, 300, .inl u.2.2.2.2.2.2.2.2.2.2.2.2.2.2.2.2.2.2.1)), (h_errorAts, .inl (tc.1, 300, .inl u.2.2.2.2.2.2.2.2.2.2.2.2.2.2.2.2.2.2.2.2.1)), (h_errorKinds, .inl (tc.1, 300, .inl u.2.2.2.2.2.2.2.2.2.2.2.2.2.2.2.2.2.2.2.2.2.1)), (h_errorTops, .inl (tc.1, 300, .inl u.2.2.2.2.2.2.2.2.2.2.2.2.2.2.2.2.2.2.2.2.2.2))])) (k31 v85 v86 v87 v88 v89 v90 v91 v92 v93 v94 v95 v96 v97 v98) [(h_, .inr (12, [.int c_rules, .ref h_lefts, .ref h_sizes, .ref h_rights, g_edits, g_pastRules, g_pastLefts, g_pastSizes, g_pastRights, g_levels, g_codes, g_details, g_asked, .int o1, .int o2, .ref h_firsts, .ref h_follows, g_isKept, g_keptEmpties, g_keptFirsts, g_keptFollows, .ref h_strings, .ref h_longs, .ref h_trial, .int o8, g_foundName, g_foundToken, g_foundP, g_foundQ, g_moved, g_movedSizes, .ref h_synchronizing, .ref h_input, .int c_inputLong, .ref h_stack, .ref h_stackParents, .int v87, .int v88, .int v89, .int v90, .ref h_traces, .int o15, .int v92, .ref h_nodeSymbols, .ref h_nodeParents, .int v95, .ref h_errorAts, .ref h_errorKinds, .ref h_errorTops, g_weights, g_bests, g_bestLongs, g_partly, g_partlyLongs, g_repaired, g_repairedLong])), (h_lefts, .inl (tc.1, 24, .inl c_lefts)), (h_sizes, .inl (tc.1, 24, .inl c_sizes)), (h_rights, .inl (tc.1, 120, .inl c_rights)), (h_firsts, .inl (tc.1, 8, .inl o3)), (h_follows, .inl (tc.1, 8, .inl o4)), (h_strings, .inl (tc.1, 1280, .inl o5)), (h_longs, .inl (tc.1, 32, .inl o6)), (h_trial, .inl (tc.1, 40, .inl o7)), (h_synchronizing, .inl (tc.1, 8, .inl c_synchronizing)), (h_input, .inl (tc.1, 40, .inl c_input)), (h_stack, .inl (tc.1, 66, .inl v85)), (h_stackParents, .inl (tc.1, 66, .inl v86)), (h_traces, .inl (tc.1, 300, .inl v91)), (h_nodeSymbols, .inl (tc.1, 300, .inl v93)), (h_nodeParents, .inl (tc.1, 300, .inl v94)), (h_errorAts, .inl (tc.1, 300, .inl v96)), (h_errorKinds, .inl (tc.1, 300, .inl v97)), (h_errorTops, .inl (tc.1, 300, .inl v98))] 187 [(0, .ref h_)] []) (rc46 : (Nat → Int32) → (Nat → Int32) → Int32 → Int32 → Int32 → Int32 → (Nat → Int32) → Int32 → (Nat → Int32) → (Nat → Int32) → Int32 → (Nat → Int32) → (Nat → Int32) → (Nat → Int32) → Option (Int32 × Int32 × Int32 × (Nat → Int32) × (Nat → Int32) × (Nat → Int32) × (Nat → Int32) × (Nat → Int32) × Int32 × (Nat → Int32) × (Nat → Int32) × Int32 × Int32 × Int32 × Int32 × (Nat → Int32) × Int32 × Int32 × (Nat → Int32) × (Nat → Int32) × Int32 × (Nat → Int32) × (Nat → Int32) × (Nat → Int32))) (hrc46 : ∀ (v32 : (Nat → Int32)) (v33 : (Nat → Int32)) (v34 : Int32) (v35 : Int32) (v36 : Int32) (v37 : Int32) (v38 : (Nat → Int32)) (v39 : Int32) (v40 : (Nat → Int32)) (v41 : (Nat → Int32)) (v42 : Int32) (v43 : (Nat → Int32)) (v44 : (Nat → Int32)) (v45 : (Nat → Int32)), jo X 3 (0, 0) (jQI X (fun (u : Int32 × Int32 × (Nat → Int32) × (Nat → Int32) × (Nat → Int32) × (Nat → Int32) × (Nat → Int32) × Int32 × (Nat → Int32) × (Nat → Int32) × Int32 × Int32 × Int32 × Int32 × (Nat → Int32) × Int32 × Int32 × (Nat → Int32) × (Nat → Int32) × Int32 × (Nat → Int32) × (Nat → Int32) × (Nat → Int32)) => [(h_, .inr (12, [.int c_rules, .ref h_lefts, .ref h_sizes, .ref h_rights, g_edits, g_pastRules, g_pastLefts, g_pastSizes, g_pastRights, g_levels, g_codes, g_details, g_asked, .int u.1, .int u.2.1, .ref h_firsts, .ref h_follows, g_isKept, g_keptEmpties, g_keptFirsts, g_keptFollows, .ref h_strings, .ref h_longs, .ref h_trial, .int u.2.2.2.2.2.2.2.1, g_foundName, g_foundToken, g_foundP, g_foundQ, g_moved, g_movedSizes, .ref h_synchronizing, .ref h_input, .int c_inputLong, .ref h_stack, .ref h_stackParents, .int u.2.2.2.2.2.2.2.2.2.2.1, .int u.2.2.2.2.2.2.2.2.2.2.2.1, .int u.2.2.2.2.2.2.2.2.2.2.2.2.1, .int u.2.2.2.2.2.2.2.2.2.2.2.2.2.1, .ref h_traces, .int u.2.2.2.2.2.2.2.2.2.2.2.2.2.2.2.1, .int u.2.2.2.2.2.2.2.2.2.2.2.2.2.2.2.2.1, .ref h_nodeSymbols, .ref h_nodeParents, .int u.2.2.2.2.2.2.2.2.2.2.2.2.2.2.2.2.2.2.2.1, .ref h_errorAts, .ref h_errorKinds, .ref h_errorTops, g_weights, g_bests, g_bestLongs, g_partly, g_partlyLongs, g_repaired, g_repairedLong])), (h_lefts, .inl (tc.1, 24, .inl c_lefts)), (h_sizes, .inl (tc.1, 24, .inl c_sizes)), (h_rights, .inl (tc.1, 120, .inl c_rights)), (h_firsts, .inl (tc.1, 8, .inl u.2.2.1)), (h_follows, .inl (tc.1, 8, .inl u.2.2.2.1)), (h_strings, .inl (tc.1, 1280, .inl u.2.2.2.2.1)), (h_longs, .inl (tc.1, 32, .inl u.2.2.2.2.2.1)), (h_trial, .inl (tc.1, 40, .inl u.2.2.2.2.2.2.1)), (h_synchronizing, .inl (tc.1, 8, .inl c_synchronizing)), (h_input, .inl (tc.1, 40, .inl c_input)), (h_stack, .inl (tc.1, 66, .inl u.2.2.2.2.2.2.2.2.1)), (h_stackParents, .inl (tc.1, 66, .inl u.2.2.2.2.2.2.2.2.2.1)), (h_traces, .inl (tc.1, 300, .inl u.2.2.2.2.2.2.2.2.2.2.2.2.2.2.1)), (h_nodeSymbols, .inl (tc.1, 300, .inl u.2.2.2.2.2.2.2.2.2.2.2.2.2.2.2.2.2.1)), (h_nodeParents, .inl (tc.1, 300, .inl u.2.2.2.2.2.2.2.2.2.2.2.2.2.2.2.2.2.2.1)), (h_errorAts, .inl (tc.1, 300, .inl u.2.2.2.2.2.2.2.2.2.2.2.2.2.2.2.2.2.2.2.2.1)), (h_errorKinds, .inl (tc.1, 300, .inl u.2.2.2.2.2.2.2.2.2.2.2.2.2.2.2.2.2.2.2.2.2.1)), (h_errorTops, .inl (tc.1, 300, .inl u.2.2.2.2.2.2.2.2.2.2.2.2.2.2.2.2.2.2.2.2.2.2))])) (rc46 v32 v33 v34 v35 v36 v37 v38 v39 v40 v41 v42 v43 v44 v45) [(h_, .inr (12, [.int c_rules, .ref h_lefts, .ref h_sizes, .ref h_rights, g_edits, g_pastRules, g_pastLefts, g_pastSizes, g_pastRights, g_levels, g_codes, g_details, g_asked, .int o1, .int o2, .ref h_firsts, .ref h_follows, g_isKept, g_keptEmpties, g_keptFirsts, g_keptFollows, .ref h_strings, .ref h_longs, .ref h_trial, .int o8, g_foundName, g_foundToken, g_foundP, g_foundQ, g_moved, g_movedSizes, .ref h_synchronizing, .ref h_input, .int c_inputLong, .ref h_stack, .ref h_stackParents, .int v34, .int v35, .int v36, .int v37, .ref h_traces, .int o15, .int v39, .ref h_nodeSymbols, .ref h_nodeParents, .int v42, .ref h_errorAts, .ref h_errorKinds, .ref h_errorTops, g_weights, g_bests, g_bestLongs, g_partly, g_partlyLongs, g_repaired, g_repairedLong])), (h_lefts, .inl (tc.1, 24, .inl c_lefts)), (h_sizes, .inl (tc.1, 24, .inl c_sizes)), (h_rights, .inl (tc.1, 120, .inl c_rights)), (h_firsts, .inl (tc.1, 8, .inl o3)), (h_follows, .inl (tc.1, 8, .inl o4)), (h_strings, .inl (tc.1, 1280, .inl o5)), (h_longs, .inl (tc.1, 32, .inl o6)), (h_trial, .inl (tc.1, 40, .inl o7)), (h_synchronizing, .inl (tc.1, 8, .inl c_synchronizing)), (h_input, .inl (tc.1, 40, .inl c_input)), (h_stack, .inl (tc.1, 66, .inl v32)), (h_stackParents, .inl (tc.1, 66, .inl v33)), (h_traces, .inl (tc.1, 300, .inl v38)), (h_nodeSymbols, .inl (tc.1, 300, .inl v40)), (h_nodeParents, .inl (tc.1, 300, .inl v41)), (h_errorAts, .inl (tc.1, 300, .inl v43)), (h_errorKinds, .inl (tc.1, 300, .inl v44)), (h_errorTops, .inl (tc.1, 300, .inl v45))] 9 [(0, .ref h_)] []) (v32 : (Nat → Int32)) (v33 : (Nat → Int32)) (v34 : Int32) (v35 : Int32) (v36 : Int32) (v37 : Int32) (v38 : (Nat → Int32)) (v39 : Int32) (v40 : (Nat → Int32)) (v41 : (Nat → Int32)) (v42 : Int32) (v43 : (Nat → Int32)) (v44 : (Nat → Int32)) (v45 : (Nat → Int32)) : jo X 3 (0, 0) (jQI X (fun (u : Int32 × Int32 × (Nat → Int32) × (Nat → Int32) × (Nat → Int32) × (Nat → Int32) × (Nat → Int32) × Int32 × (Nat → Int32) × (Nat → Int32) × Int32 × Int32 × Int32 × Int32 × (Nat → Int32) × Int32 × Int32 × (Nat → Int32) × (Nat → Int32) × Int32 × (Nat → Int32) × (Nat → Int32) × (Nat → Int32)) => [(h_, .inr (12, [.int c_rules, .ref h_lefts, .ref h_sizes, .ref h_rights, g_edits, g_pastRules, g_pastLefts, g_pastSizes, g_pastRights, g_levels, g_codes, g_details, g_asked, .int u.1, .int u.2.1, .ref h_firsts, .ref h_follows, g_isKept, g_keptEmpties, g_keptFirsts, g_keptFollows, .ref h_strings, .ref h_longs, .ref h_trial, .int u.2.2.2.2.2.2.2.1, g_foundName, g_foundToken, g_foundP, g_foundQ, g_moved, g_movedSizes, .ref h_synchronizing, .ref h_input, .int c_inputLong, .ref h_stack, .ref h_stackParents, .int u.2.2.2.2.2.2.2.2.2.2.1, .int u.2.2.2.2.2.2.2.2.2.2.2.1, .int u.2.2.2.2.2.2.2.2.2.2.2.2.1, .int u.2.2.2.2.2.2.2.2.2.2.2.2.2.1, .ref h_traces, .int u.2.2.2.2.2.2.2.2.2.2.2.2.2.2.2.1, .int u.2.2.2.2.2.2.2.2.2.2.2.2.2.2.2.2.1, .ref h_nodeSymbols, .ref h_nodeParents, .int u.2.2.2.2.2.2.2.2.2.2.2.2.2.2.2.2.2.2.2.1, .ref h_errorAts, .ref h_errorKinds, .ref h_errorTops, g_weights, g_bests, g_bestLongs, g_partly, g_partlyLongs, g_repaired, g_repairedLong])), (h_lefts, .inl (tc.1, 24, .inl c_lefts)), (h_sizes, .inl (tc.1, 24, .inl c_sizes)), (h_rights, .inl (tc.1, 120, .inl c_rights)), (h_firsts, .inl (tc.1, 8, .inl u.2.2.1)), (h_follows, .inl (tc.1, 8, .inl u.2.2.2.1)), (h_strings, .inl (tc.1, 1280, .inl u.2.2.2.2.1)), (h_longs, .inl (tc.1, 32, .inl u.2.2.2.2.2.1)), (h_trial, .inl (tc.1, 40, .inl u.2.2.2.2.2.2.1)), (h_synchronizing, .inl (tc.1, 8, .inl c_synchronizing)), (h_input, .inl (tc.1, 40, .inl c_input)), (h_stack, .inl (tc.1, 66, .inl u.2.2.2.2.2.2.2.2.1)), (h_stackParents, .inl (tc.1, 66, .inl u.2.2.2.2.2.2.2.2.2.1)), (h_traces, .inl (tc.1, 300, .inl u.2.2.2.2.2.2.2.2.2.2.2.2.2.2.1)), (h_nodeSymbols, .inl (tc.1, 300, .inl u.2.2.2.2.2.2.2.2.2.2.2.2.2.2.2.2.2.1)), (h_nodeParents, .inl (tc.1, 300, .inl u.2.2.2.2.2.2.2.2.2.2.2.2.2.2.2.2.2.2.1)), (h_errorAts, .inl (tc.1, 300, .inl u.2.2.2.2.2.2.2.2.2.2.2.2.2.2.2.2.2.2.2.2.1)), (h_errorKinds, .inl (tc.1, 300, .inl u.2.2.2.2.2.2.2.2.2.2.2.2.2.2.2.2.2.2.2.2.2.1)), (h_errorTops, .inl (tc.1, 300, .inl u.2.2.2.2.2.2.2.2.2.2.2.2.2.2.2.2.2.2.2.2.2.2))])) (bX12_recover_9 N c_rules c_lefts c_sizes c_rights c_synchronizing c_input c_inputLong o1 o2 o3 o4 o5 o6 o7 o8 o15 k31 rc46 v32 v33 v34 v35 v36 v37 v38 v39 v40 v41 v42 v43 v44 v45) [(h_, .inr (12, [.int c_rules, .ref h_lefts, .ref h_sizes, .ref h_rights, g_edits, g_pastRules, g_pastLefts, g_pastSizes, g_pastRights, g_levels, g_codes, g_details, g_asked, .int o1, .int o2, .ref h_firsts, .ref h_follows, g_isKept, g_keptEmpties, g_keptFirsts, g_keptFollows, .ref h_strings, .ref h_longs, .ref h_trial, .int o8, g_foundName, g_foundToken, g_foundP, g_foundQ, g_moved, g_movedSizes, .ref h_synchronizing, .ref h_input, .int c_inputLong, .ref h_stack, .ref h_stackParents, .int v34, .int v35, .int v36, .int v37, .ref h_traces, .int o15, .int v39, .ref h_nodeSymbols, .ref h_nodeParents, .int v42, .ref h_errorAts, .ref h_errorKinds, .ref h_errorTops, g_weights, g_bests, g_bestLongs, g_partly, g_partlyLongs, g_repaired, g_repairedLong])), (h_lefts, .inl (tc.1, 24, .inl c_lefts)), (h_sizes, .inl (tc.1, 24, .inl c_sizes)), (h_rights, .inl (tc.1, 120, .inl c_rights)), (h_firsts, .inl (tc.1, 8, .inl o3)), (h_follows, .inl (tc.1, 8, .inl o4)), (h_strings, .inl (tc.1, 1280, .inl o5)), (h_longs, .inl (tc.1, 32, .inl o6)), (h_trial, .inl (tc.1, 40, .inl o7)), (h_synchronizing, .inl (tc.1, 8, .inl c_synchronizing)), (h_input, .inl (tc.1, 40, .inl c_input)), (h_stack, .inl (tc.1, 66, .inl v32)), (h_stackParents, .inl (tc.1, 66, .inl v33)), (h_traces, .inl (tc.1, 300, .inl v38)), (h_nodeSymbols, .inl (tc.1, 300, .inl v40)), (h_nodeParents, .inl (tc.1, 300, .inl v41)), (h_errorAts, .inl (tc.1, 300, .inl v43)), (h_errorKinds, .inl (tc.1, 300, .inl v44)), (h_errorTops, .inl (tc.1, 300, .inl v45))] 9 [(0, .ref h_)] [] := by
  unfold bX12_recover_9
  refine j_aload C d12_recover_9 0 rfl ?_
  refine j_callVI0 (As := []) C d12_recover_10 mv12_314 (kX12_isDone _ _ tc h_ h_input (.int c_rules) (.ref h_lefts) (.ref h_sizes) (.ref h_rights) g_edits g_pastRules g_pastLefts g_pastSizes g_pastRights g_levels g_codes g_details g_asked (.int o1) (.int o2) (.ref h_firsts) (.ref h_follows) g_isKept g_keptEmpties g_keptFirsts g_keptFollows (.ref h_strings) (.ref h_longs) (.ref h_trial) (.int o8) g_foundName g_foundToken g_foundP g_foundQ g_moved g_movedSizes (.ref h_synchronizing) (.ref h_stack) (.ref h_stackParents) (.int v36) (.int v37) (.ref h_traces) (.int o15) (.int v39) (.ref h_nodeSymbols) (.ref h_nodeParents) (.int v42) (.ref h_errorAts) (.ref h_errorKinds) (.ref h_errorTops) g_weights g_bests g_bestLongs g_partly g_partlyLongs g_repaired g_repairedLong c_input c_inputLong v34 v35) ⟨rfl, rfl, Nat.le_of_ble_eq_true rfl, Nat.le_of_ble_eq_true rfl⟩ rfl 0 rfl [0, 10] rfl rfl rfl (Nat.le_of_ble_eq_true rfl) (fun x47 => ?_)
  refine j_if_ne C d12_recover_13 ?_ ?_
  · exact hk31 _ _ _ _ _ _ _ _ _ _ _ _ _ _
  · refine j_aload C d12_recover_16 0 rfl ?_
    refine j_get C d12_recover_17 fl12_296 0 rfl rfl ?_
    refine j_const C d12_recover_20 ?_
    refine j_icmp_ne C d12_recover_23 ?_ ?_
    · refine j_aload C d12_recover_29 0 rfl ?_
      refine j_callVI11 (As := []) C d12_recover_30 mv12_323 (kX12_goes _ _ tc N h_ h_lefts h_sizes h_rights h_firsts h_follows h_input h_stack h_stackParents h_traces h_nodeSymbols h_nodeParents g_edits g_pastRules g_pastLefts g_pastSizes g_pastRights g_levels g_codes g_details g_asked (.int o1) g_isKept g_keptEmpties g_keptFirsts g_keptFollows (.ref h_strings) (.ref h_longs) (.ref h_trial) (.int o8) g_foundName g_foundToken g_foundP g_foundQ g_moved g_movedSizes (.ref h_synchronizing) (.int o15) (.int v42) (.ref h_errorAts) (.ref h_errorKinds) (.ref h_errorTops) g_weights g_bests g_bestLongs g_partly g_partlyLongs g_repaired g_repairedLong c_rules c_lefts c_sizes c_rights o2 o3 o4 c_input c_inputLong v32 v33 v34 v35 v36 v37 v38 v39 v40 v41) ⟨rfl, rfl, Nat.le_of_ble_eq_true rfl, Nat.le_of_ble_eq_true rfl⟩ rfl 0 rfl [0, 1, 2, 3, 4, 5, 10, 11, 12, 13, 14, 15] rfl rfl rfl (Nat.le_of_ble_eq_true rfl) (fun o48 o49 o50 o51 o52 o53 o54 o55 o56 o57 => [(h_, .inr (12, [.int c_rules, .ref h_lefts, .ref h_sizes, .ref h_rights, g_edits, g_pastRules, g_pastLefts, g_pastSizes, g_pastRights, g_levels, g_codes, g_details, g_asked, .int o1, .int o2, .ref h_firsts, .ref h_follows, g_isKept, g_keptEmpties, g_keptFirsts, g_keptFollows, .ref h_strings, .ref h_longs, .ref h_trial, .int o8, g_foundName, g_foundToken, g_foundP, g_foundQ, g_moved, g_movedSizes, .ref h_synchronizing, .ref h_input, .int c_inputLong, .ref h_stack, .ref h_stackParents, .int o50, .int o51, .int o52, .int o53, .ref h_traces, .int o15, .int o55, .ref h_nodeSymbols, .ref h_nodeParents, .int v42, .ref h_errorAts, .ref h_errorKinds, .ref h_errorTops, g_weights, g_bests, g_bestLongs, g_partly, g_partlyLongs, g_repaired, g_repairedLong])), (h_lefts, .inl (tc.1, 24, .inl c_lefts)), (h_sizes, .inl (tc.1, 24, .inl c_sizes)), (h_rights, .inl (tc.1, 120, .inl c_rights)), (h_firsts, .inl (tc.1, 8, .inl o3)), (h_follows, .inl (tc.1, 8, .inl o4)), (h_strings, .inl (tc.1, 1280, .inl o5)), (h_longs, .inl (tc.1, 32, .inl o6)), (h_trial, .inl (tc.1, 40, .inl o7)), (h_synchronizing, .inl (tc.1, 8, .inl c_synchronizing)), (h_input, .inl (tc.1, 40, .inl c_input)), (h_stack, .inl (tc.1, 66, .inl o48)), (h_stackParents, .inl (tc.1, 66, .inl o49)), (h_traces, .inl (tc.1, 300, .inl o54)), (h_nodeSymbols, .inl (tc.1, 300, .inl o56)), (h_nodeParents, .inl (tc.1, 300, .inl o57)), (h_errorAts, .inl (tc.1, 300, .inl v43)), (h_errorKinds, .inl (tc.1, 300, .inl v44)), (h_errorTops, .inl (tc.1, 300, .inl v45))]) [(true, 0), (true, 1), (true, 2), (true, 3), (true, 4), (true, 5), (false, 6), (false, 7), (false, 8), (false, 9), (true, 6), (true, 7), (true, 8), (true, 9), (true, 10), (true, 11), (false, 16), (false, 17), (false, 18)] (fun _ => rfl) (by decide +kernel) (fun o58 o48 o49 o50 o51 o52 o53 o54 o55 o56 o57 => ?_)
      refine j_if_eq C d12_recover_33 ?_ ?_
      · refine j_aload C d12_recover_48 0 rfl ?_
        refine j_get C d12_recover_49 fl12_290 0 rfl rfl ?_
        refine j_if_ne C d12_recover_52 ?_ ?_
        · refine j_aload C d12_recover_71 0 rfl ?_
          refine j_get C d12_recover_72 fl12_73 0 rfl rfl ?_
          refine j_aload C d12_recover_75 0 rfl ?_
          refine j_get C d12_recover_76 fl12_290 0 rfl rfl ?_
          refine j_const C d12_recover_79 ?_
          refine j_isub C d12_recover_80 ?_
          refine j_iald C d12_recover_81 11 rfl (fun x59 => ?_)
          refine j_istore C d12_recover_82 (by decide) (lv' := [(1, .int x59), (0, .ref h_)]) rfl ?_
          refine j_iload C d12_recover_83 0 rfl ?_
          refine j_const C d12_recover_84 ?_
          refine j_join 133 (fun v60 => [(h_, .inr (12, [.int c_rules, .ref h_lefts, .ref h_sizes, .ref h_rights, g_edits, g_pastRules, g_pastLefts, g_pastSizes, g_pastRights, g_levels, g_codes, g_details, g_asked, .int o1, .int o2, .ref h_firsts, .ref h_follows, g_isKept, g_keptEmpties, g_keptFirsts, g_keptFollows, .ref h_strings, .ref h_longs, .ref h_trial, .int o8, g_foundName, g_foundToken, g_foundP, g_foundQ, g_moved, g_movedSizes, .ref h_synchronizing, .ref h_input, .int c_inputLong, .ref h_stack, .ref h_stackParents, .int o50, .int o51, .int o52, .int o53, .ref h_traces, .int o15, .int o55, .ref h_nodeSymbols, .ref h_nodeParents, .int v42, .ref h_errorAts, .ref h_errorKinds, .ref h_errorTops, g_weights, g_bests, g_bestLongs, g_partly, g_partlyLongs, g_repaired, g_repairedLong])), (h_lefts, .inl (tc.1, 24, .inl c_lefts)), (h_sizes, .inl (tc.1, 24, .inl c_sizes)), (h_rights, .inl (tc.1, 120, .inl c_rights)), (h_firsts, .inl (tc.1, 8, .inl o3)), (h_follows, .inl (tc.1, 8, .inl o4)), (h_strings, .inl (tc.1, 1280, .inl o5)), (h_longs, .inl (tc.1, 32, .inl o6)), (h_trial, .inl (tc.1, 40, .inl o7)), (h_synchronizing, .inl (tc.1, 8, .inl c_synchronizing)), (h_input, .inl (tc.1, 40, .inl c_input)), (h_stack, .inl (tc.1, 66, .inl o48)), (h_stackParents, .inl (tc.1, 66, .inl o49)), (h_traces, .inl (tc.1, 300, .inl o54)), (h_nodeSymbols, .inl (tc.1, 300, .inl o56)), (h_nodeParents, .inl (tc.1, 300, .inl o57)), (h_errorAts, .inl (tc.1, 300, .inl v43)), (h_errorKinds, .inl (tc.1, 300, .inl v44)), (h_errorTops, .inl (tc.1, 300, .inl v45))]) (fun v60 => [(0, .ref h_), (1, .int x59)]) (fun v60 => [.int v60]) (fun v60 => ?_) (fun k73 hk73 => ?_)
          · refine j_istore C d12_recover_133 (by decide) (lv' := [(2, .int v60), (0, .ref h_), (1, .int x59)]) rfl ?_
            refine j_aload C d12_recover_134 1 rfl ?_
            refine j_iload C d12_recover_135 2 rfl ?_
            refine j_const C d12_recover_136 ?_
            refine j_join 154 (fun v61 => [(h_, .inr (12, [.int c_rules, .ref h_lefts, .ref h_sizes, .ref h_rights, g_edits, g_pastRules, g_pastLefts, g_pastSizes, g_pastRights, g_levels, g_codes, g_details, g_asked, .int o1, .int o2, .ref h_firsts, .ref h_follows, g_isKept, g_keptEmpties, g_keptFirsts, g_keptFollows, .ref h_strings, .ref h_longs, .ref h_trial, .int o8, g_foundName, g_foundToken, g_foundP, g_foundQ, g_moved, g_movedSizes, .ref h_synchronizing, .ref h_input, .int c_inputLong, .ref h_stack, .ref h_stackParents, .int o50, .int o51, .int o52, .int o53, .ref h_traces, .int o15, .int o55, .ref h_nodeSymbols, .ref h_nodeParents, .int v42, .ref h_errorAts, .ref h_errorKinds, .ref h_errorTops, g_weights, g_bests, g_bestLongs, g_partly, g_partlyLongs, g_repaired, g_repairedLong])), (h_lefts, .inl (tc.1, 24, .inl c_lefts)), (h_sizes, .inl (tc.1, 24, .inl c_sizes)), (h_rights, .inl (tc.1, 120, .inl c_rights)), (h_firsts, .inl (tc.1, 8, .inl o3)), (h_follows, .inl (tc.1, 8, .inl o4)), (h_strings, .inl (tc.1, 1280, .inl o5)), (h_longs, .inl (tc.1, 32, .inl o6)), (h_trial, .inl (tc.1, 40, .inl o7)), (h_synchronizing, .inl (tc.1, 8, .inl c_synchronizing)), (h_input, .inl (tc.1, 40, .inl c_input)), (h_stack, .inl (tc.1, 66, .inl o48)), (h_stackParents, .inl (tc.1, 66, .inl o49)), (h_traces, .inl (tc.1, 300, .inl o54)), (h_nodeSymbols, .inl (tc.1, 300, .inl o56)), (h_nodeParents, .inl (tc.1, 300, .inl o57)), (h_errorAts, .inl (tc.1, 300, .inl v43)), (h_errorKinds, .inl (tc.1, 300, .inl v44)), (h_errorTops, .inl (tc.1, 300, .inl v45))]) (fun v61 => [(0, .ref h_), (2, .int v60)]) (fun v61 => [.int v61, .ref h_]) (fun v61 => ?_) (fun k72 hk72 => ?_)
            · refine j_callVV5 (As := [.int v61]) C d12_recover_154 mv12_335 (kX12_errs _ _ tc h_ h_stack h_errorAts h_errorKinds h_errorTops (.int c_rules) (.ref h_lefts) (.ref h_sizes) (.ref h_rights) g_edits g_pastRules g_pastLefts g_pastSizes g_pastRights g_levels g_codes g_details g_asked (.int o1) (.int o2) (.ref h_firsts) (.ref h_follows) g_isKept g_keptEmpties g_keptFirsts g_keptFollows (.ref h_strings) (.ref h_longs) (.ref h_trial) (.int o8) g_foundName g_foundToken g_foundP g_foundQ g_moved g_movedSizes (.ref h_synchronizing) (.ref h_input) (.int c_inputLong) (.ref h_stackParents) (.int o53) (.ref h_traces) (.int o15) (.int o55) (.ref h_nodeSymbols) (.ref h_nodeParents) g_weights g_bests g_bestLongs g_partly g_partlyLongs g_repaired g_repairedLong o48 o50 o51 o52 v42 v43 v44 v45 v61) ⟨rfl, rfl, Nat.le_of_ble_eq_true rfl, Nat.le_of_ble_eq_true rfl⟩ rfl 0 rfl [0, 11, 16, 17, 18] rfl rfl rfl (Nat.le_of_ble_eq_true rfl) (fun o62 o63 o64 o65 o66 => [(h_, .inr (12, [.int c_rules, .ref h_lefts, .ref h_sizes, .ref h_rights, g_edits, g_pastRules, g_pastLefts, g_pastSizes, g_pastRights, g_levels, g_codes, g_details, g_asked, .int o1, .int o2, .ref h_firsts, .ref h_follows, g_isKept, g_keptEmpties, g_keptFirsts, g_keptFollows, .ref h_strings, .ref h_longs, .ref h_trial, .int o8, g_foundName, g_foundToken, g_foundP, g_foundQ, g_moved, g_movedSizes, .ref h_synchronizing, .ref h_input, .int c_inputLong, .ref h_stack, .ref h_stackParents, .int o50, .int o51, .int o62, .int o53, .ref h_traces, .int o15, .int o55, .ref h_nodeSymbols, .ref h_nodeParents, .int o63, .ref h_errorAts, .ref h_errorKinds, .ref h_errorTops, g_weights, g_bests, g_bestLongs, g_partly, g_partlyLongs, g_repaired, g_repairedLong])), (h_lefts, .inl (tc.1, 24, .inl c_lefts)), (h_sizes, .inl (tc.1, 24, .inl c_sizes)), (h_rights, .inl (tc.1, 120, .inl c_rights)), (h_firsts, .inl (tc.1, 8, .inl o3)), (h_follows, .inl (tc.1, 8, .inl o4)), (h_strings, .inl (tc.1, 1280, .inl o5)), (h_longs, .inl (tc.1, 32, .inl o6)), (h_trial, .inl (tc.1, 40, .inl o7)), (h_synchronizing, .inl (tc.1, 8, .inl c_synchronizing)), (h_input, .inl (tc.1, 40, .inl c_input)), (h_stack, .inl (tc.1, 66, .inl o48)), (h_stackParents, .inl (tc.1, 66, .inl o49)), (h_traces, .inl (tc.1, 300, .inl o54)), (h_nodeSymbols, .inl (tc.1, 300, .inl o56)), (h_nodeParents, .inl (tc.1, 300, .inl o57)), (h_errorAts, .inl (tc.1, 300, .inl o64)), (h_errorKinds, .inl (tc.1, 300, .inl o65)), (h_errorTops, .inl (tc.1, 300, .inl o66))]) [(true, 0), (false, 1), (false, 2), (false, 3), (false, 4), (false, 5), (false, 6), (false, 7), (false, 8), (false, 9), (false, 10), (true, 1), (false, 12), (false, 13), (false, 14), (false, 15), (true, 2), (true, 3), (true, 4)] (fun _ => rfl) (by decide +kernel) (fun o62 o63 o64 o65 o66 => ?_)
              refine j_iload C d12_recover_157 1 rfl ?_
              refine j_join2 184 (fun v67 v68 => [(h_, .inr (12, [.int c_rules, .ref h_lefts, .ref h_sizes, .ref h_rights, g_edits, g_pastRules, g_pastLefts, g_pastSizes, g_pastRights, g_levels, g_codes, g_details, g_asked, .int o1, .int o2, .ref h_firsts, .ref h_follows, g_isKept, g_keptEmpties, g_keptFirsts, g_keptFollows, .ref h_strings, .ref h_longs, .ref h_trial, .int o8, g_foundName, g_foundToken, g_foundP, g_foundQ, g_moved, g_movedSizes, .ref h_synchronizing, .ref h_input, .int c_inputLong, .ref h_stack, .ref h_stackParents, .int v67, .int v68, .int o62, .int o53, .ref h_traces, .int o15, .int o55, .ref h_nodeSymbols, .ref h_nodeParents, .int o63, .ref h_errorAts, .ref h_errorKinds, .ref h_errorTops, g_weights, g_bests, g_bestLongs, g_partly, g_partlyLongs, g_repaired, g_repairedLong])), (h_lefts, .inl (tc.1, 24, .inl c_lefts)), (h_sizes, .inl (tc.1, 24, .inl c_sizes)), (h_rights, .inl (tc.1, 120, .inl c_rights)), (h_firsts, .inl (tc.1, 8, .inl o3)), (h_follows, .inl (tc.1, 8, .inl o4)), (h_strings, .inl (tc.1, 1280, .inl o5)), (h_longs, .inl (tc.1, 32, .inl o6)), (h_trial, .inl (tc.1, 40, .inl o7)), (h_synchronizing, .inl (tc.1, 8, .inl c_synchronizing)), (h_input, .inl (tc.1, 40, .inl c_input)), (h_stack, .inl (tc.1, 66, .inl o48)), (h_stackParents, .inl (tc.1, 66, .inl o49)), (h_traces, .inl (tc.1, 300, .inl o54)), (h_nodeSymbols, .inl (tc.1, 300, .inl o56)), (h_nodeParents, .inl (tc.1, 300, .inl o57)), (h_errorAts, .inl (tc.1, 300, .inl o64)), (h_errorKinds, .inl (tc.1, 300, .inl o65)), (h_errorTops, .inl (tc.1, 300, .inl o66))]) (fun v67 v68 => [(0, .ref h_)]) (fun v67 v68 => []) (fun v67 v68 => ?_) (fun k69 hk69 => ?_)
              · refine j_goto C d12_recover_184 ?_
                exact hrc46 _ _ _ _ _ _ _ _ _ _ _ _ _ _
              · refine j_if_eq C d12_recover_158 ?_ ?_
                · refine j_aload C d12_recover_174 0 rfl ?_
                  refine j_dup C d12_recover_175 rfl ?_
                  refine j_get C d12_recover_176 fl12_293 0 rfl rfl ?_
                  refine j_const C d12_recover_179 ?_
                  refine j_iadd C d12_recover_180 ?_
                  refine j_leti (fun x70 => ?_)
                  refine j_putq C d12_recover_181 fq12_293 0 rfl rfl rfl (Nat.le_of_ble_eq_true rfl) (ws' := [(h_, .inr (12, [.int c_rules, .ref h_lefts, .ref h_sizes, .ref h_rights, g_edits, g_pastRules, g_pastLefts, g_pastSizes, g_pastRights, g_levels, g_codes, g_details, g_asked, .int o1, .int o2, .ref h_firsts, .ref h_follows, g_isKept, g_keptEmpties, g_keptFirsts, g_keptFollows, .ref h_strings, .ref h_longs, .ref h_trial, .int o8, g_foundName, g_foundToken, g_foundP, g_foundQ, g_moved, g_movedSizes, .ref h_synchronizing, .ref h_input, .int c_inputLong, .ref h_stack, .ref h_stackParents, .int o50, .int x70, .int o62, .int o53, .ref h_traces, .int o15, .int o55, .ref h_nodeSymbols, .ref h_nodeParents, .int o63, .ref h_errorAts, .ref h_errorKinds, .ref h_errorTops, g_weights, g_bests, g_bestLongs, g_partly, g_partlyLongs, g_repaired, g_repairedLong])), (h_lefts, .inl (tc.1, 24, .inl c_lefts)), (h_sizes, .inl (tc.1, 24, .inl c_sizes)), (h_rights, .inl (tc.1, 120, .inl c_rights)), (h_firsts, .inl (tc.1, 8, .inl o3)), (h_follows, .inl (tc.1, 8, .inl o4)), (h_strings, .inl (tc.1, 1280, .inl o5)), (h_longs, .inl (tc.1, 32, .inl o6)), (h_trial, .inl (tc.1, 40, .inl o7)), (h_synchronizing, .inl (tc.1, 8, .inl c_synchronizing)), (h_input, .inl (tc.1, 40, .inl c_input)), (h_stack, .inl (tc.1, 66, .inl o48)), (h_stackParents, .inl (tc.1, 66, .inl o49)), (h_traces, .inl (tc.1, 300, .inl o54)), (h_nodeSymbols, .inl (tc.1, 300, .inl o56)), (h_nodeParents, .inl (tc.1, 300, .inl o57)), (h_errorAts, .inl (tc.1, 300, .inl o64)), (h_errorKinds, .inl (tc.1, 300, .inl o65)), (h_errorTops, .inl (tc.1, 300, .inl o66))]) rfl ?_
                  exact j_sub [0] rfl (hk69 _ _)
                · refine j_aload C d12_recover_161 0 rfl ?_
                  refine j_dup C d12_recover_162 rfl ?_
                  refine j_get C d12_recover_163 fl12_290 0 rfl rfl ?_
                  refine j_const C d12_recover_166 ?_
                  refine j_isub C d12_recover_167 ?_
                  refine j_leti (fun x71 => ?_)
                  refine j_putq C d12_recover_168 fq12_290 0 rfl rfl rfl (Nat.le_of_ble_eq_true rfl) (ws' := [(h_, .inr (12, [.int c_rules, .ref h_lefts, .ref h_sizes, .ref h_rights, g_edits, g_pastRules, g_pastLefts, g_pastSizes, g_pastRights, g_levels, g_codes, g_details, g_asked, .int o1, .int o2, .ref h_firsts, .ref h_follows, g_isKept, g_keptEmpties, g_keptFirsts, g_keptFollows, .ref h_strings, .ref h_longs, .ref h_trial, .int o8, g_foundName, g_foundToken, g_foundP, g_foundQ, g_moved, g_movedSizes, .ref h_synchronizing, .ref h_input, .int c_inputLong, .ref h_stack, .ref h_stackParents, .int x71, .int o51, .int o62, .int o53, .ref h_traces, .int o15, .int o55, .ref h_nodeSymbols, .ref h_nodeParents, .int o63, .ref h_errorAts, .ref h_errorKinds, .ref h_errorTops, g_weights, g_bests, g_bestLongs, g_partly, g_partlyLongs, g_repaired, g_repairedLong])), (h_lefts, .inl (tc.1, 24, .inl c_lefts)), (h_sizes, .inl (tc.1, 24, .inl c_sizes)), (h_rights, .inl (tc.1, 120, .inl c_rights)), (h_firsts, .inl (tc.1, 8, .inl o3)), (h_follows, .inl (tc.1, 8, .inl o4)), (h_strings, .inl (tc.1, 1280, .inl o5)), (h_longs, .inl (tc.1, 32, .inl o6)), (h_trial, .inl (tc.1, 40, .inl o7)), (h_synchronizing, .inl (tc.1, 8, .inl c_synchronizing)), (h_input, .inl (tc.1, 40, .inl c_input)), (h_stack, .inl (tc.1, 66, .inl o48)), (h_stackParents, .inl (tc.1, 66, .inl o49)), (h_traces, .inl (tc.1, 300, .inl o54)), (h_nodeSymbols, .inl (tc.1, 300, .inl o56)), (h_nodeParents, .inl (tc.1, 300, .inl o57)), (h_errorAts, .inl (tc.1, 300, .inl o64)), (h_errorKinds, .inl (tc.1, 300, .inl o65)), (h_errorTops, .inl (tc.1, 300, .inl o66))]) rfl ?_
                  refine j_goto C d12_recover_171 ?_
                  exact j_sub [0] rfl (hk69 _ _)
            · refine j_icmp_ge C d12_recover_138 ?_ ?_
              · refine j_iload C d12_recover_145 0 rfl ?_
                refine j_if_eq C d12_recover_146 ?_ ?_
                · refine j_const C d12_recover_153 ?_
                  exact j_sub [1, 0] rfl (hk72 _)
                · refine j_const C d12_recover_149 ?_
                  refine j_goto C d12_recover_150 ?_
                  exact j_sub [1, 0] rfl (hk72 _)
              · refine j_const C d12_recover_141 ?_
                refine j_goto C d12_recover_142 ?_
                exact j_sub [1, 0] rfl (hk72 _)
          · refine j_join 128 (fun v74 => [(h_, .inr (12, [.int c_rules, .ref h_lefts, .ref h_sizes, .ref h_rights, g_edits, g_pastRules, g_pastLefts, g_pastSizes, g_pastRights, g_levels, g_codes, g_details, g_asked, .int o1, .int o2, .ref h_firsts, .ref h_follows, g_isKept, g_keptEmpties, g_keptFirsts, g_keptFollows, .ref h_strings, .ref h_longs, .ref h_trial, .int o8, g_foundName, g_foundToken, g_foundP, g_foundQ, g_moved, g_movedSizes, .ref h_synchronizing, .ref h_input, .int c_inputLong, .ref h_stack, .ref h_stackParents, .int o50, .int o51, .int o52, .int o53, .ref h_traces, .int o15, .int o55, .ref h_nodeSymbols, .ref h_nodeParents, .int v42, .ref h_errorAts, .ref h_errorKinds, .ref h_errorTops, g_weights, g_bests, g_bestLongs, g_partly, g_partlyLongs, g_repaired, g_repairedLong])), (h_lefts, .inl (tc.1, 24, .inl c_lefts)), (h_sizes, .inl (tc.1, 24, .inl c_sizes)), (h_rights, .inl (tc.1, 120, .inl c_rights)), (h_firsts, .inl (tc.1, 8, .inl o3)), (h_follows, .inl (tc.1, 8, .inl o4)), (h_strings, .inl (tc.1, 1280, .inl o5)), (h_longs, .inl (tc.1, 32, .inl o6)), (h_trial, .inl (tc.1, 40, .inl o7)), (h_synchronizing, .inl (tc.1, 8, .inl c_synchronizing)), (h_input, .inl (tc.1, 40, .inl c_input)), (h_stack, .inl (tc.1, 66, .inl o48)), (h_stackParents, .inl (tc.1, 66, .inl o49)), (h_traces, .inl (tc.1, 300, .inl o54)), (h_nodeSymbols, .inl (tc.1, 300, .inl o56)), (h_nodeParents, .inl (tc.1, 300, .inl o57)), (h_errorAts, .inl (tc.1, 300, .inl v43)), (h_errorKinds, .inl (tc.1, 300, .inl v44)), (h_errorTops, .inl (tc.1, 300, .inl v45))]) (fun v74 => [(0, .ref h_), (1, .int x59)]) (fun v74 => []) (fun v74 => ?_) (fun k75 hk75 => ?_)
            · refine j_const C d12_recover_128 ?_
              refine j_goto C d12_recover_129 ?_
              exact hk73 _
            · refine j_icmp_lt C d12_recover_86 ?_ ?_
              · exact j_sub [1, 0] rfl (hk75 _)
              · refine j_aload C d12_recover_89 1 rfl ?_
                refine j_callVI0 (As := []) C d12_recover_90 mv12_308 (kX12_token _ _ tc h_ h_input (.int c_rules) (.ref h_lefts) (.ref h_sizes) (.ref h_rights) g_edits g_pastRules g_pastLefts g_pastSizes g_pastRights g_levels g_codes g_details g_asked (.int o1) (.int o2) (.ref h_firsts) (.ref h_follows) g_isKept g_keptEmpties g_keptFirsts g_keptFollows (.ref h_strings) (.ref h_longs) (.ref h_trial) (.int o8) g_foundName g_foundToken g_foundP g_foundQ g_moved g_movedSizes (.ref h_synchronizing) (.ref h_stack) (.ref h_stackParents) (.int o50) (.int o52) (.int o53) (.ref h_traces) (.int o15) (.int o55) (.ref h_nodeSymbols) (.ref h_nodeParents) (.int v42) (.ref h_errorAts) (.ref h_errorKinds) (.ref h_errorTops) g_weights g_bests g_bestLongs g_partly g_partlyLongs g_repaired g_repairedLong c_input c_inputLong o51) ⟨rfl, rfl, Nat.le_of_ble_eq_true rfl, Nat.le_of_ble_eq_true rfl⟩ rfl 0 rfl [0, 10] rfl rfl rfl (Nat.le_of_ble_eq_true rfl) (fun x76 => ?_)
                refine j_const C d12_recover_93 ?_
                refine j_icmp_eq C d12_recover_95 ?_ ?_
                · exact j_sub [1, 0] rfl (hk75 _)
                · refine j_aload C d12_recover_98 1 rfl ?_
                  refine j_get C d12_recover_99 fl12_43 0 rfl rfl ?_
                  refine j_iload C d12_recover_102 0 rfl ?_
                  refine j_const C d12_recover_103 ?_
                  refine j_isub C d12_recover_105 ?_
                  refine j_iald C d12_recover_106 5 rfl (fun x77 => ?_)
                  refine j_aload C d12_recover_107 1 rfl ?_
                  refine j_get C d12_recover_108 fl12_67 0 rfl rfl ?_
                  refine j_iload C d12_recover_111 0 rfl ?_
                  refine j_const C d12_recover_112 ?_
                  refine j_isub C d12_recover_114 ?_
                  refine j_iald C d12_recover_115 9 rfl (fun x78 => ?_)
                  refine j_ior C d12_recover_116 ?_
                  refine j_aload C d12_recover_117 1 rfl ?_
                  refine j_callVI0 (As := []) C d12_recover_118 mv12_308 (kX12_token _ _ tc h_ h_input (.int c_rules) (.ref h_lefts) (.ref h_sizes) (.ref h_rights) g_edits g_pastRules g_pastLefts g_pastSizes g_pastRights g_levels g_codes g_details g_asked (.int o1) (.int o2) (.ref h_firsts) (.ref h_follows) g_isKept g_keptEmpties g_keptFirsts g_keptFollows (.ref h_strings) (.ref h_longs) (.ref h_trial) (.int o8) g_foundName g_foundToken g_foundP g_foundQ g_moved g_movedSizes (.ref h_synchronizing) (.ref h_stack) (.ref h_stackParents) (.int o50) (.int o52) (.int o53) (.ref h_traces) (.int o15) (.int o55) (.ref h_nodeSymbols) (.ref h_nodeParents) (.int v42) (.ref h_errorAts) (.ref h_errorKinds) (.ref h_errorTops) g_weights g_bests g_bestLongs g_partly g_partlyLongs g_repaired g_repairedLong c_input c_inputLong o51) ⟨rfl, rfl, Nat.le_of_ble_eq_true rfl, Nat.le_of_ble_eq_true rfl⟩ rfl 0 rfl [0, 10] rfl rfl rfl (Nat.le_of_ble_eq_true rfl) (fun x79 => ?_)
                  refine j_ishr C d12_recover_121 ?_
                  refine j_const C d12_recover_122 ?_
                  refine j_iand C d12_recover_123 ?_
                  refine j_const C d12_recover_124 ?_
                  refine j_icmp_ne C d12_recover_125 ?_ ?_
                  · refine j_const C d12_recover_132 ?_
                    exact j_sub [1, 0] rfl (hk73 _)
                  · exact j_sub [1, 0] rfl (hk75 _)
        · refine j_aload C d12_recover_55 0 rfl ?_
          refine j_const C d12_recover_56 ?_
          refine j_callVV5 (As := [.int 3]) C d12_recover_57 mv12_335 (kX12_errs _ _ tc h_ h_stack h_errorAts h_errorKinds h_errorTops (.int c_rules) (.ref h_lefts) (.ref h_sizes) (.ref h_rights) g_edits g_pastRules g_pastLefts g_pastSizes g_pastRights g_levels g_codes g_details g_asked (.int o1) (.int o2) (.ref h_firsts) (.ref h_follows) g_isKept g_keptEmpties g_keptFirsts g_keptFollows (.ref h_strings) (.ref h_longs) (.ref h_trial) (.int o8) g_foundName g_foundToken g_foundP g_foundQ g_moved g_movedSizes (.ref h_synchronizing) (.ref h_input) (.int c_inputLong) (.ref h_stackParents) (.int o53) (.ref h_traces) (.int o15) (.int o55) (.ref h_nodeSymbols) (.ref h_nodeParents) g_weights g_bests g_bestLongs g_partly g_partlyLongs g_repaired g_repairedLong o48 o50 o51 o52 v42 v43 v44 v45 3) ⟨rfl, rfl, Nat.le_of_ble_eq_true rfl, Nat.le_of_ble_eq_true rfl⟩ rfl 0 rfl [0, 11, 16, 17, 18] rfl rfl rfl (Nat.le_of_ble_eq_true rfl) (fun o80 o81 o82 o83 o84 => [(h_, .inr (12, [.int c_rules, .ref h_lefts, .ref h_sizes, .ref h_rights, g_edits, g_pastRules, g_pastLefts, g_pastSizes, g_pastRights, g_levels, g_codes, g_details, g_asked, .int o1, .int o2, .ref h_firsts, .ref h_follows, g_isKept, g_keptEmpties, g_keptFirsts, g_keptFollows, .ref h_strings, .ref h_longs, .ref h_trial, .int o8, g_foundName, g_foundToken, g_foundP, g_foundQ, g_moved, g_movedSizes, .ref h_synchronizing, .ref h_input, .int c_inputLong, .ref h_stack, .ref h_stackParents, .int o50, .int o51, .int o80, .int o53, .ref h_traces, .int o15, .int o55, .ref h_nodeSymbols, .ref h_nodeParents, .int o81, .ref h_errorAts, .ref h_errorKinds, .ref h_errorTops, g_weights, g_bests, g_bestLongs, g_partly, g_partlyLongs, g_repaired, g_repairedLong])), (h_lefts, .inl (tc.1, 24, .inl c_lefts)), (h_sizes, .inl (tc.1, 24, .inl c_sizes)), (h_rights, .inl (tc.1, 120, .inl c_rights)), (h_firsts, .inl (tc.1, 8, .inl o3)), (h_follows, .inl (tc.1, 8, .inl o4)), (h_strings, .inl (tc.1, 1280, .inl o5)), (h_longs, .inl (tc.1, 32, .inl o6)), (h_trial, .inl (tc.1, 40, .inl o7)), (h_synchronizing, .inl (tc.1, 8, .inl c_synchronizing)), (h_input, .inl (tc.1, 40, .inl c_input)), (h_stack, .inl (tc.1, 66, .inl o48)), (h_stackParents, .inl (tc.1, 66, .inl o49)), (h_traces, .inl (tc.1, 300, .inl o54)), (h_nodeSymbols, .inl (tc.1, 300, .inl o56)), (h_nodeParents, .inl (tc.1, 300, .inl o57)), (h_errorAts, .inl (tc.1, 300, .inl o82)), (h_errorKinds, .inl (tc.1, 300, .inl o83)), (h_errorTops, .inl (tc.1, 300, .inl o84))]) [(true, 0), (false, 1), (false, 2), (false, 3), (false, 4), (false, 5), (false, 6), (false, 7), (false, 8), (false, 9), (false, 10), (true, 1), (false, 12), (false, 13), (false, 14), (false, 15), (true, 2), (true, 3), (true, 4)] (fun _ => rfl) (by decide +kernel) (fun o80 o81 o82 o83 o84 => ?_)
          refine j_aload C d12_recover_60 0 rfl ?_
          refine j_aload C d12_recover_61 0 rfl ?_
          refine j_get C d12_recover_62 fl12_287 0 rfl rfl ?_
          refine j_putq C d12_recover_65 fq12_293 0 rfl rfl rfl (Nat.le_of_ble_eq_true rfl) (ws' := [(h_, .inr (12, [.int c_rules, .ref h_lefts, .ref h_sizes, .ref h_rights, g_edits, g_pastRules, g_pastLefts, g_pastSizes, g_pastRights, g_levels, g_codes, g_details, g_asked, .int o1, .int o2, .ref h_firsts, .ref h_follows, g_isKept, g_keptEmpties, g_keptFirsts, g_keptFollows, .ref h_strings, .ref h_longs, .ref h_trial, .int o8, g_foundName, g_foundToken, g_foundP, g_foundQ, g_moved, g_movedSizes, .ref h_synchronizing, .ref h_input, .int c_inputLong, .ref h_stack, .ref h_stackParents, .int o50, .int c_inputLong, .int o80, .int o53, .ref h_traces, .int o15, .int o55, .ref h_nodeSymbols, .ref h_nodeParents, .int o81, .ref h_errorAts, .ref h_errorKinds, .ref h_errorTops, g_weights, g_bests, g_bestLongs, g_partly, g_partlyLongs, g_repaired, g_repairedLong])), (h_lefts, .inl (tc.1, 24, .inl c_lefts)), (h_sizes, .inl (tc.1, 24, .inl c_sizes)), (h_rights, .inl (tc.1, 120, .inl c_rights)), (h_firsts, .inl (tc.1, 8, .inl o3)), (h_follows, .inl (tc.1, 8, .inl o4)), (h_strings, .inl (tc.1, 1280, .inl o5)), (h_longs, .inl (tc.1, 32, .inl o6)), (h_trial, .inl (tc.1, 40, .inl o7)), (h_synchronizing, .inl (tc.1, 8, .inl c_synchronizing)), (h_input, .inl (tc.1, 40, .inl c_input)), (h_stack, .inl (tc.1, 66, .inl o48)), (h_stackParents, .inl (tc.1, 66, .inl o49)), (h_traces, .inl (tc.1, 300, .inl o54)), (h_nodeSymbols, .inl (tc.1, 300, .inl o56)), (h_nodeParents, .inl (tc.1, 300, .inl o57)), (h_errorAts, .inl (tc.1, 300, .inl o82)), (h_errorKinds, .inl (tc.1, 300, .inl o83)), (h_errorTops, .inl (tc.1, 300, .inl o84))]) rfl ?_
          refine j_goto C d12_recover_68 ?_
          exact hrc46 _ _ _ _ _ _ _ _ _ _ _ _ _ _
      · refine j_aload C d12_recover_36 0 rfl ?_
        refine j_get C d12_recover_37 fl12_290 0 rfl rfl ?_
        refine j_const C d12_recover_40 ?_
        refine j_icmp_le C d12_recover_42 ?_ ?_
        · exact hrc46 _ _ _ _ _ _ _ _ _ _ _ _ _ _
        · refine j_const C d12_recover_45 ?_
          exact j_iret C d12_recover_47 rfl
    · refine j_const C d12_recover_26 ?_
      exact j_iret C d12_recover_28 rfl

set_option maxHeartbeats 4000000 in
set_option maxRecDepth 100000 in
theorem kX12_recover (l : Launch) (D : va_G) (tc : jTC) (N : Nat) (h_ h_lefts h_sizes h_rights h_firsts h_follows h_strings h_longs h_trial h_synchronizing h_input h_stack h_stackParents h_traces h_nodeSymbols h_nodeParents h_errorAts h_errorKinds h_errorTops : Nat) (g_edits g_pastRules g_pastLefts g_pastSizes g_pastRights g_levels g_codes g_details g_asked g_isKept g_keptEmpties g_keptFirsts g_keptFollows g_foundName g_foundToken g_foundP g_foundQ g_moved g_movedSizes g_weights g_bests g_bestLongs g_partly g_partlyLongs g_repaired g_repairedLong : Value) (c_rules : Int32) (c_lefts : (Nat → Int32)) (c_sizes : (Nat → Int32)) (c_rights : (Nat → Int32)) (c_isWorked : Int32) (c_empties : Int32) (c_firsts : (Nat → Int32)) (c_follows : (Nat → Int32)) (c_strings : (Nat → Int32)) (c_longs : (Nat → Int32)) (c_trial : (Nat → Int32)) (c_trialLong : Int32) (c_synchronizing : (Nat → Int32)) (c_input : (Nat → Int32)) (c_inputLong : Int32) (c_stack : (Nat → Int32)) (c_stackParents : (Nat → Int32)) (c_top : Int32) (c_at : Int32) (c_steps : Int32) (c_traced : Int32) (c_traces : (Nat → Int32)) (c_nodes : Int32) (c_made : Int32) (c_nodeSymbols : (Nat → Int32)) (c_nodeParents : (Nat → Int32)) (c_errors : Int32) (c_errorAts : (Nat → Int32)) (c_errorKinds : (Nat → Int32)) (c_errorTops : (Nat → Int32)) : ctI l D tc yX12_recover (Cond.code yX12_recover cX12_recover 3 (some .int) :: jtb) ({ frames := 6, cells := 0, slots := 0, locals := 130 } : Room) [.ref h_] [(h_, .inr (12, [.int c_rules, .ref h_lefts, .ref h_sizes, .ref h_rights, g_edits, g_pastRules, g_pastLefts, g_pastSizes, g_pastRights, g_levels, g_codes, g_details, g_asked, .int c_isWorked, .int c_empties, .ref h_firsts, .ref h_follows, g_isKept, g_keptEmpties, g_keptFirsts, g_keptFollows, .ref h_strings, .ref h_longs, .ref h_trial, .int c_trialLong, g_foundName, g_foundToken, g_foundP, g_foundQ, g_moved, g_movedSizes, .ref h_synchronizing, .ref h_input, .int c_inputLong, .ref h_stack, .ref h_stackParents, .int c_top, .int c_at, .int c_steps, .int c_traced, .ref h_traces, .int c_nodes, .int c_made, .ref h_nodeSymbols, .ref h_nodeParents, .int c_errors, .ref h_errorAts, .ref h_errorKinds, .ref h_errorTops, g_weights, g_bests, g_bestLongs, g_partly, g_partlyLongs, g_repaired, g_repairedLong])), (h_lefts, .inl (tc.1, 24, .inl c_lefts)), (h_sizes, .inl (tc.1, 24, .inl c_sizes)), (h_rights, .inl (tc.1, 120, .inl c_rights)), (h_firsts, .inl (tc.1, 8, .inl c_firsts)), (h_follows, .inl (tc.1, 8, .inl c_follows)), (h_strings, .inl (tc.1, 1280, .inl c_strings)), (h_longs, .inl (tc.1, 32, .inl c_longs)), (h_trial, .inl (tc.1, 40, .inl c_trial)), (h_synchronizing, .inl (tc.1, 8, .inl c_synchronizing)), (h_input, .inl (tc.1, 40, .inl c_input)), (h_stack, .inl (tc.1, 66, .inl c_stack)), (h_stackParents, .inl (tc.1, 66, .inl c_stackParents)), (h_traces, .inl (tc.1, 300, .inl c_traces)), (h_nodeSymbols, .inl (tc.1, 300, .inl c_nodeSymbols)), (h_nodeParents, .inl (tc.1, 300, .inl c_nodeParents)), (h_errorAts, .inl (tc.1, 300, .inl c_errorAts)), (h_errorKinds, .inl (tc.1, 300, .inl c_errorKinds)), (h_errorTops, .inl (tc.1, 300, .inl c_errorTops))] (fX12_recover N c_rules c_lefts c_sizes c_rights c_isWorked c_empties c_firsts c_follows c_strings c_longs c_trial c_trialLong c_synchronizing c_input c_inputLong c_stack c_stackParents c_top c_at c_steps c_traced c_traces c_nodes c_made c_nodeSymbols c_nodeParents c_errors c_errorAts c_errorKinds c_errorTops) (fun (u : Int32 × Int32 × (Nat → Int32) × (Nat → Int32) × (Nat → Int32) × (Nat → Int32) × (Nat → Int32) × Int32 × (Nat → Int32) × (Nat → Int32) × Int32 × Int32 × Int32 × Int32 × (Nat → Int32) × Int32 × Int32 × (Nat → Int32) × (Nat → Int32) × Int32 × (Nat → Int32) × (Nat → Int32) × (Nat → Int32)) => [(h_, .inr (12, [.int c_rules, .ref h_lefts, .ref h_sizes, .ref h_rights, g_edits, g_pastRules, g_pastLefts, g_pastSizes, g_pastRights, g_levels, g_codes, g_details, g_asked, .int u.1, .int u.2.1, .ref h_firsts, .ref h_follows, g_isKept, g_keptEmpties, g_keptFirsts, g_keptFollows, .ref h_strings, .ref h_longs, .ref h_trial, .int u.2.2.2.2.2.2.2.1, g_foundName, g_foundToken, g_foundP, g_foundQ, g_moved, g_movedSizes, .ref h_synchronizing, .ref h_input, .int c_inputLong, .ref h_stack, .ref h_stackParents, .int u.2.2.2.2.2.2.2.2.2.2.1, .int u.2.2.2.2.2.2.2.2.2.2.2.1, .int u.2.2.2.2.2.2.2.2.2.2.2.2.1, .int u.2.2.2.2.2.2.2.2.2.2.2.2.2.1, .ref h_traces, .int u.2.2.2.2.2.2.2.2.2.2.2.2.2.2.2.1, .int u.2.2.2.2.2.2.2.2.2.2.2.2.2.2.2.2.1, .ref h_nodeSymbols, .ref h_nodeParents, .int u.2.2.2.2.2.2.2.2.2.2.2.2.2.2.2.2.2.2.2.1, .ref h_errorAts, .ref h_errorKinds, .ref h_errorTops, g_weights, g_bests, g_bestLongs, g_partly, g_partlyLongs, g_repaired, g_repairedLong])), (h_lefts, .inl (tc.1, 24, .inl c_lefts)), (h_sizes, .inl (tc.1, 24, .inl c_sizes)), (h_rights, .inl (tc.1, 120, .inl c_rights)), (h_firsts, .inl (tc.1, 8, .inl u.2.2.1)), (h_follows, .inl (tc.1, 8, .inl u.2.2.2.1)), (h_strings, .inl (tc.1, 1280, .inl u.2.2.2.2.1)), (h_longs, .inl (tc.1, 32, .inl u.2.2.2.2.2.1)), (h_trial, .inl (tc.1, 40, .inl u.2.2.2.2.2.2.1)), (h_synchronizing, .inl (tc.1, 8, .inl c_synchronizing)), (h_input, .inl (tc.1, 40, .inl c_input)), (h_stack, .inl (tc.1, 66, .inl u.2.2.2.2.2.2.2.2.1)), (h_stackParents, .inl (tc.1, 66, .inl u.2.2.2.2.2.2.2.2.2.1)), (h_traces, .inl (tc.1, 300, .inl u.2.2.2.2.2.2.2.2.2.2.2.2.2.2.1)), (h_nodeSymbols, .inl (tc.1, 300, .inl u.2.2.2.2.2.2.2.2.2.2.2.2.2.2.2.2.2.1)), (h_nodeParents, .inl (tc.1, 300, .inl u.2.2.2.2.2.2.2.2.2.2.2.2.2.2.2.2.2.2.1)), (h_errorAts, .inl (tc.1, 300, .inl u.2.2.2.2.2.2.2.2.2.2.2.2.2.2.2.2.2.2.2.2.1)), (h_errorKinds, .inl (tc.1, 300, .inl u.2.2.2.2.2.2.2.2.2.2.2.2.2.2.2.2.2.2.2.2.2.1)), (h_errorTops, .inl (tc.1, 300, .inl u.2.2.2.2.2.2.2.2.2.2.2.2.2.2.2.2.2.2.2.2.2.2))]) := by
  refine ctI_of (lv0 := [(0, .ref h_)]) (by decide +kernel) (Nat.le_of_ble_eq_true rfl) rfl (fun X C => ?_)
  unfold fX12_recover
  refine j_aload C d12_recover_0 0 rfl ?_
  refine j_callVV16 (As := []) C d12_recover_1 mv12_311 (kX12_starts _ _ tc N h_ h_lefts h_sizes h_rights h_firsts h_follows h_strings h_longs h_trial h_stack h_stackParents g_edits g_pastRules g_pastLefts g_pastSizes g_pastRights g_levels g_codes g_details g_asked g_isKept g_keptEmpties g_keptFirsts g_keptFollows g_foundName g_foundToken g_foundP g_foundQ g_moved g_movedSizes (.ref h_synchronizing) (.ref h_input) (.int c_inputLong) (.ref h_traces) (.ref h_nodeSymbols) (.ref h_nodeParents) (.int c_errors) (.ref h_errorAts) (.ref h_errorKinds) (.ref h_errorTops) g_weights g_bests g_bestLongs g_partly g_partlyLongs g_repaired g_repairedLong c_rules c_lefts c_sizes c_rights c_isWorked c_empties c_firsts c_follows c_strings c_longs c_trial c_trialLong c_stack c_stackParents c_top c_at c_steps c_traced c_nodes c_made) ⟨rfl, rfl, Nat.le_of_ble_eq_true rfl, Nat.le_of_ble_eq_true rfl⟩ rfl 0 rfl [0, 1, 2, 3, 4, 5, 6, 7, 8, 11, 12] rfl rfl rfl (Nat.le_of_ble_eq_true rfl) (fun o1 o2 o3 o4 o5 o6 o7 o8 o9 o10 o11 o12 o13 o14 o15 o16 => [(h_, .inr (12, [.int c_rules, .ref h_lefts, .ref h_sizes, .ref h_rights, g_edits, g_pastRules, g_pastLefts, g_pastSizes, g_pastRights, g_levels, g_codes, g_details, g_asked, .int o1, .int o2, .ref h_firsts, .ref h_follows, g_isKept, g_keptEmpties, g_keptFirsts, g_keptFollows, .ref h_strings, .ref h_longs, .ref h_trial, .int o8, g_foundName, g_foundToken, g_foundP, g_foundQ, g_moved, g_movedSizes, .ref h_synchronizing, .ref h_input, .int c_inputLong, .ref h_stack, .ref h_stackParents, .int o11, .int o12, .int o13, .int o14, .ref h_traces, .int o15, .int o16, .ref h_nodeSymbols, .ref h_nodeParents, .int c_errors, .ref h_errorAts, .ref h_errorKinds, .ref h_errorTops, g_weights, g_bests, g_bestLongs, g_partly, g_partlyLongs, g_repaired, g_repairedLong])), (h_lefts, .inl (tc.1, 24, .inl c_lefts)), (h_sizes, .inl (tc.1, 24, .inl c_sizes)), (h_rights, .inl (tc.1, 120, .inl c_rights)), (h_firsts, .inl (tc.1, 8, .inl o3)), (h_follows, .inl (tc.1, 8, .inl o4)), (h_strings, .inl (tc.1, 1280, .inl o5)), (h_longs, .inl (tc.1, 32, .inl o6)), (h_trial, .inl (tc.1, 40, .inl o7)), (h_synchronizing, .inl (tc.1, 8, .inl c_synchronizing)), (h_input, .inl (tc.1, 40, .inl c_input)), (h_stack, .inl (tc.1, 66, .inl o9)), (h_stackParents, .inl (tc.1, 66, .inl o10)), (h_traces, .inl (tc.1, 300, .inl c_traces)), (h_nodeSymbols, .inl (tc.1, 300, .inl c_nodeSymbols)), (h_nodeParents, .inl (tc.1, 300, .inl c_nodeParents)), (h_errorAts, .inl (tc.1, 300, .inl c_errorAts)), (h_errorKinds, .inl (tc.1, 300, .inl c_errorKinds)), (h_errorTops, .inl (tc.1, 300, .inl c_errorTops))]) [(true, 0), (true, 1), (true, 2), (true, 3), (true, 4), (true, 5), (true, 6), (true, 7), (true, 8), (false, 9), (false, 10), (true, 9), (true, 10), (false, 13), (false, 14), (false, 15), (false, 16), (false, 17), (false, 18)] (fun _ => rfl) (by decide +kernel) (fun o1 o2 o3 o4 o5 o6 o7 o8 o9 o10 o11 o12 o13 o14 o15 o16 => ?_)
  refine j_aload C d12_recover_4 0 rfl ?_
  refine j_const C d12_recover_5 ?_
  refine j_putq C d12_recover_6 fq12_332 0 rfl rfl rfl (Nat.le_of_ble_eq_true rfl) (ws' := [(h_, .inr (12, [.int c_rules, .ref h_lefts, .ref h_sizes, .ref h_rights, g_edits, g_pastRules, g_pastLefts, g_pastSizes, g_pastRights, g_levels, g_codes, g_details, g_asked, .int o1, .int o2, .ref h_firsts, .ref h_follows, g_isKept, g_keptEmpties, g_keptFirsts, g_keptFollows, .ref h_strings, .ref h_longs, .ref h_trial, .int o8, g_foundName, g_foundToken, g_foundP, g_foundQ, g_moved, g_movedSizes, .ref h_synchronizing, .ref h_input, .int c_inputLong, .ref h_stack, .ref h_stackParents, .int o11, .int o12, .int o13, .int o14, .ref h_traces, .int o15, .int o16, .ref h_nodeSymbols, .ref h_nodeParents, .int 0, .ref h_errorAts, .ref h_errorKinds, .ref h_errorTops, g_weights, g_bests, g_bestLongs, g_partly, g_partlyLongs, g_repaired, g_repairedLong])), (h_lefts, .inl (tc.1, 24, .inl c_lefts)), (h_sizes, .inl (tc.1, 24, .inl c_sizes)), (h_rights, .inl (tc.1, 120, .inl c_rights)), (h_firsts, .inl (tc.1, 8, .inl o3)), (h_follows, .inl (tc.1, 8, .inl o4)), (h_strings, .inl (tc.1, 1280, .inl o5)), (h_longs, .inl (tc.1, 32, .inl o6)), (h_trial, .inl (tc.1, 40, .inl o7)), (h_synchronizing, .inl (tc.1, 8, .inl c_synchronizing)), (h_input, .inl (tc.1, 40, .inl c_input)), (h_stack, .inl (tc.1, 66, .inl o9)), (h_stackParents, .inl (tc.1, 66, .inl o10)), (h_traces, .inl (tc.1, 300, .inl c_traces)), (h_nodeSymbols, .inl (tc.1, 300, .inl c_nodeSymbols)), (h_nodeParents, .inl (tc.1, 300, .inl c_nodeParents)), (h_errorAts, .inl (tc.1, 300, .inl c_errorAts)), (h_errorKinds, .inl (tc.1, 300, .inl c_errorKinds)), (h_errorTops, .inl (tc.1, 300, .inl c_errorTops))]) rfl ?_
  refine j_join14 187 (fun v17 v18 v19 v20 v21 v22 v23 v24 v25 v26 v27 v28 v29 v30 => [(h_, .inr (12, [.int c_rules, .ref h_lefts, .ref h_sizes, .ref h_rights, g_edits, g_pastRules, g_pastLefts, g_pastSizes, g_pastRights, g_levels, g_codes, g_details, g_asked, .int o1, .int o2, .ref h_firsts, .ref h_follows, g_isKept, g_keptEmpties, g_keptFirsts, g_keptFollows, .ref h_strings, .ref h_longs, .ref h_trial, .int o8, g_foundName, g_foundToken, g_foundP, g_foundQ, g_moved, g_movedSizes, .ref h_synchronizing, .ref h_input, .int c_inputLong, .ref h_stack, .ref h_stackParents, .int v19, .int v20, .int v21, .int v22, .ref h_traces, .int o15, .int v24, .ref h_nodeSymbols, .ref h_nodeParents, .int v27, .ref h_errorAts, .ref h_errorKinds, .ref h_errorTops, g_weights, g_bests, g_bestLongs, g_partly, g_partlyLongs, g_repaired, g_repairedLong])), (h_lefts, .inl (tc.1, 24, .inl c_lefts)), (h_sizes, .inl (tc.1, 24, .inl c_sizes)), (h_rights, .inl (tc.1, 120, .inl c_rights)), (h_firsts, .inl (tc.1, 8, .inl o3)), (h_follows, .inl (tc.1, 8, .inl o4)), (h_strings, .inl (tc.1, 1280, .inl o5)), (h_longs, .inl (tc.1, 32, .inl o6)), (h_trial, .inl (tc.1, 40, .inl o7)), (h_synchronizing, .inl (tc.1, 8, .inl c_synchronizing)), (h_input, .inl (tc.1, 40, .inl c_input)), (h_stack, .inl (tc.1, 66, .inl v17)), (h_stackParents, .inl (tc.1, 66, .inl v18)), (h_traces, .inl (tc.1, 300, .inl v23)), (h_nodeSymbols, .inl (tc.1, 300, .inl v25)), (h_nodeParents, .inl (tc.1, 300, .inl v26)), (h_errorAts, .inl (tc.1, 300, .inl v28)), (h_errorKinds, .inl (tc.1, 300, .inl v29)), (h_errorTops, .inl (tc.1, 300, .inl v30))]) (fun v17 v18 v19 v20 v21 v22 v23 v24 v25 v26 v27 v28 v29 v30 => [(0, .ref h_)]) (fun v17 v18 v19 v20 v21 v22 v23 v24 v25 v26 v27 v28 v29 v30 => []) (fun v17 v18 v19 v20 v21 v22 v23 v24 v25 v26 v27 v28 v29 v30 => ?_) (fun k31 hk31 => ?_)
  · refine j_aload C d12_recover_187 0 rfl ?_
    refine j_get C d12_recover_188 fl12_332 0 rfl rfl ?_
    exact j_iret C d12_recover_191 rfl
  · exact j_loop14 (fun v32 v33 v34 v35 v36 v37 v38 v39 v40 v41 v42 v43 v44 v45 => [(h_, .inr (12, [.int c_rules, .ref h_lefts, .ref h_sizes, .ref h_rights, g_edits, g_pastRules, g_pastLefts, g_pastSizes, g_pastRights, g_levels, g_codes, g_details, g_asked, .int o1, .int o2, .ref h_firsts, .ref h_follows, g_isKept, g_keptEmpties, g_keptFirsts, g_keptFollows, .ref h_strings, .ref h_longs, .ref h_trial, .int o8, g_foundName, g_foundToken, g_foundP, g_foundQ, g_moved, g_movedSizes, .ref h_synchronizing, .ref h_input, .int c_inputLong, .ref h_stack, .ref h_stackParents, .int v34, .int v35, .int v36, .int v37, .ref h_traces, .int o15, .int v39, .ref h_nodeSymbols, .ref h_nodeParents, .int v42, .ref h_errorAts, .ref h_errorKinds, .ref h_errorTops, g_weights, g_bests, g_bestLongs, g_partly, g_partlyLongs, g_repaired, g_repairedLong])), (h_lefts, .inl (tc.1, 24, .inl c_lefts)), (h_sizes, .inl (tc.1, 24, .inl c_sizes)), (h_rights, .inl (tc.1, 120, .inl c_rights)), (h_firsts, .inl (tc.1, 8, .inl o3)), (h_follows, .inl (tc.1, 8, .inl o4)), (h_strings, .inl (tc.1, 1280, .inl o5)), (h_longs, .inl (tc.1, 32, .inl o6)), (h_trial, .inl (tc.1, 40, .inl o7)), (h_synchronizing, .inl (tc.1, 8, .inl c_synchronizing)), (h_input, .inl (tc.1, 40, .inl c_input)), (h_stack, .inl (tc.1, 66, .inl v32)), (h_stackParents, .inl (tc.1, 66, .inl v33)), (h_traces, .inl (tc.1, 300, .inl v38)), (h_nodeSymbols, .inl (tc.1, 300, .inl v40)), (h_nodeParents, .inl (tc.1, 300, .inl v41)), (h_errorAts, .inl (tc.1, 300, .inl v43)), (h_errorKinds, .inl (tc.1, 300, .inl v44)), (h_errorTops, .inl (tc.1, 300, .inl v45))]) (fun v32 v33 v34 v35 v36 v37 v38 v39 v40 v41 v42 v43 v44 v45 => [(0, .ref h_)]) (fun rc46 hrc46 v32 v33 v34 v35 v36 v37 v38 v39 v40 v41 v42 v43 v44 v45 => wX12_recover_9 C N h_ h_lefts h_sizes h_rights h_firsts h_follows h_strings h_longs h_trial h_synchronizing h_input h_stack h_stackParents h_traces h_nodeSymbols h_nodeParents h_errorAts h_errorKinds h_errorTops g_edits g_pastRules g_pastLefts g_pastSizes g_pastRights g_levels g_codes g_details g_asked g_isKept g_keptEmpties g_keptFirsts g_keptFollows g_foundName g_foundToken g_foundP g_foundQ g_moved g_movedSizes g_weights g_bests g_bestLongs g_partly g_partlyLongs g_repaired g_repairedLong c_rules c_lefts c_sizes c_rights c_synchronizing c_input c_inputLong o1 o2 o3 o4 o5 o6 o7 o8 o15 k31 hk31 rc46 hrc46 v32 v33 v34 v35 v36 v37 v38 v39 v40 v41 v42 v43 v44 v45) N _ _ _ _ _ _ _ _ _ _ _ _ _ _

theorem d12_error_0 : jdi cX12_error 0 2 1 := Or.inl ⟨2, by decide +kernel⟩
theorem d12_error_1 : jdk cX12_error 1 0 2 := Or.inl ⟨0, by decide +kernel⟩
theorem d12_error_2 : jdk cX12_error 2 2 3 := Or.inl ⟨2, by decide +kernel⟩
theorem d12_error_3 : jd cX12_error 3 (.invokestatic 119) 3 6 := by decide +kernel
theorem d12_error_6 : jdb cX12_error 6 (.ifCond .ne 5) 5 11 9 := by decide +kernel
theorem d12_error_9 : jdk cX12_error 9 (-1) 10 := Or.inl ⟨(-1), by decide +kernel⟩
theorem d12_error_10 : decode cX12_error 10 = .ok (.ireturn, 1) := by decide +kernel
theorem d12_error_11 : jdi cX12_error 11 1 12 := Or.inl ⟨1, by decide +kernel⟩
theorem d12_error_12 : jdk cX12_error 12 0 13 := Or.inl ⟨0, by decide +kernel⟩
theorem d12_error_13 : jda cX12_error 13 0 14 := Or.inl ⟨0, by decide +kernel⟩
theorem d12_error_14 : jd cX12_error 14 (.getfield 332) 3 17 := by decide +kernel
theorem d12_error_17 : jdk cX12_error 17 1 18 := Or.inl ⟨1, by decide +kernel⟩
theorem d12_error_18 : jd cX12_error 18 (.isub) 1 19 := by decide +kernel
theorem d12_error_19 : jd cX12_error 19 (.invokestatic 119) 3 22 := by decide +kernel
theorem d12_error_22 : jdb cX12_error 22 (.ifCond .ne 8) 8 30 25 := by decide +kernel
theorem d12_error_25 : jdk cX12_error 25 (-2) 27 := Or.inr (Or.inl ⟨(-2), by decide +kernel⟩)
theorem d12_error_27 : jdb cX12_error 27 (.goto 36) 36 63 30 := by decide +kernel
theorem d12_error_30 : jdi cX12_error 30 2 31 := Or.inl ⟨2, by decide +kernel⟩
theorem d12_error_31 : jdb cX12_error 31 (.ifCond .ne 12) 12 43 34 := by decide +kernel
theorem d12_error_34 : jda cX12_error 34 0 35 := Or.inl ⟨0, by decide +kernel⟩
theorem d12_error_35 : jd cX12_error 35 (.getfield 88) 3 38 := by decide +kernel
theorem d12_error_38 : jdi cX12_error 38 1 39 := Or.inl ⟨1, by decide +kernel⟩
theorem d12_error_39 : jd cX12_error 39 (.iaload) 1 40 := by decide +kernel
theorem d12_error_40 : jdb cX12_error 40 (.goto 23) 23 63 43 := by decide +kernel
theorem d12_error_43 : jdi cX12_error 43 2 44 := Or.inl ⟨2, by decide +kernel⟩
theorem d12_error_44 : jdk cX12_error 44 1 45 := Or.inl ⟨1, by decide +kernel⟩
theorem d12_error_45 : jdb cX12_error 45 (.if_icmp .ne 12) 12 57 48 := by decide +kernel
theorem d12_error_48 : jda cX12_error 48 0 49 := Or.inl ⟨0, by decide +kernel⟩
theorem d12_error_49 : jd cX12_error 49 (.getfield 91) 3 52 := by decide +kernel
theorem d12_error_52 : jdi cX12_error 52 1 53 := Or.inl ⟨1, by decide +kernel⟩
theorem d12_error_53 : jd cX12_error 53 (.iaload) 1 54 := by decide +kernel
theorem d12_error_54 : jdb cX12_error 54 (.goto 9) 9 63 57 := by decide +kernel
theorem d12_error_57 : jda cX12_error 57 0 58 := Or.inl ⟨0, by decide +kernel⟩
theorem d12_error_58 : jd cX12_error 58 (.getfield 94) 3 61 := by decide +kernel
theorem d12_error_61 : jdi cX12_error 61 1 62 := Or.inl ⟨1, by decide +kernel⟩
theorem d12_error_62 : jd cX12_error 62 (.iaload) 1 63 := by decide +kernel
theorem d12_error_63 : decode cX12_error 63 = .ok (.ireturn, 1) := by decide +kernel
set_option maxHeartbeats 4000000 in
set_option maxRecDepth 100000 in
theorem kX12_error (l : Launch) (D : va_G) (tc : jTC) (h_ h_errorAts h_errorKinds h_errorTops : Nat) (g_rules g_lefts g_sizes g_rights g_edits g_pastRules g_pastLefts g_pastSizes g_pastRights g_levels g_codes g_details g_asked g_isWorked g_empties g_firsts g_follows g_isKept g_keptEmpties g_keptFirsts g_keptFollows g_strings g_longs g_trial g_trialLong g_foundName g_foundToken g_foundP g_foundQ g_moved g_movedSizes g_synchronizing g_input g_inputLong g_stack g_stackParents g_top g_at g_steps g_traced g_traces g_nodes g_made g_nodeSymbols g_nodeParents g_weights g_bests g_bestLongs g_partly g_partlyLongs g_repaired g_repairedLong : Value) (c_errors : Int32) (c_errorAts : (Nat → Int32)) (c_errorKinds : (Nat → Int32)) (c_errorTops : (Nat → Int32)) (p1 : Int32) (p2 : Int32) : ctI0 l D tc yX12_error (Cond.code yX12_error cX12_error 3 (some .int) :: jtb) ({ frames := 1, cells := 0, slots := 0, locals := 22 } : Room) [.ref h_, .int p1, .int p2] [(h_, .inr (12, [g_rules, g_lefts, g_sizes, g_rights, g_edits, g_pastRules, g_pastLefts, g_pastSizes, g_pastRights, g_levels, g_codes, g_details, g_asked, g_isWorked, g_empties, g_firsts, g_follows, g_isKept, g_keptEmpties, g_keptFirsts, g_keptFollows, g_strings, g_longs, g_trial, g_trialLong, g_foundName, g_foundToken, g_foundP, g_foundQ, g_moved, g_movedSizes, g_synchronizing, g_input, g_inputLong, g_stack, g_stackParents, g_top, g_at, g_steps, g_traced, g_traces, g_nodes, g_made, g_nodeSymbols, g_nodeParents, .int c_errors, .ref h_errorAts, .ref h_errorKinds, .ref h_errorTops, g_weights, g_bests, g_bestLongs, g_partly, g_partlyLongs, g_repaired, g_repairedLong])), (h_errorAts, .inl (tc.1, 300, .inl c_errorAts)), (h_errorKinds, .inl (tc.1, 300, .inl c_errorKinds)), (h_errorTops, .inl (tc.1, 300, .inl c_errorTops))] (fX12_error c_errors c_errorAts c_errorKinds c_errorTops p1 p2) := by
  refine ctI0_of (lv0 := [(0, .ref h_), (1, .int p1), (2, .int p2)]) (by decide +kernel) (Nat.le_of_ble_eq_true rfl) rfl (fun X C => ?_)
  unfold fX12_error
  refine j_iload C d12_error_0 2 rfl ?_
  refine j_const C d12_error_1 ?_
  refine j_const C d12_error_2 ?_
  refine j_callSI0 (As := [.int p2, .int 0, .int 2]) C d12_error_3 ms12_119 (kX12_in _ _ tc p2 0 2) ⟨rfl, rfl, Nat.le_of_ble_eq_true rfl, Nat.le_of_ble_eq_true rfl⟩ rfl [] rfl rfl rfl (Nat.le_of_ble_eq_true rfl) (fun x1 => ?_)
  refine j_if_ne C d12_error_6 ?_ ?_
  · refine j_iload C d12_error_11 1 rfl ?_
    refine j_const C d12_error_12 ?_
    refine j_aload C d12_error_13 0 rfl ?_
    refine j_get C d12_error_14 fl12_332 0 rfl rfl ?_
    refine j_const C d12_error_17 ?_
    refine j_isub C d12_error_18 ?_
    refine j_callSI0 (As := [.int p1, .int 0, .int (c_errors - (1 : Int32))]) C d12_error_19 ms12_119 (kX12_in _ _ tc p1 0 (c_errors - (1 : Int32))) ⟨rfl, rfl, Nat.le_of_ble_eq_true rfl, Nat.le_of_ble_eq_true rfl⟩ rfl [] rfl rfl rfl (Nat.le_of_ble_eq_true rfl) (fun x2 => ?_)
    refine j_join 63 (fun v3 => [(h_, .inr (12, [g_rules, g_lefts, g_sizes, g_rights, g_edits, g_pastRules, g_pastLefts, g_pastSizes, g_pastRights, g_levels, g_codes, g_details, g_asked, g_isWorked, g_empties, g_firsts, g_follows, g_isKept, g_keptEmpties, g_keptFirsts, g_keptFollows, g_strings, g_longs, g_trial, g_trialLong, g_foundName, g_foundToken, g_foundP, g_foundQ, g_moved, g_movedSizes, g_synchronizing, g_input, g_inputLong, g_stack, g_stackParents, g_top, g_at, g_steps, g_traced, g_traces, g_nodes, g_made, g_nodeSymbols, g_nodeParents, .int c_errors, .ref h_errorAts, .ref h_errorKinds, .ref h_errorTops, g_weights, g_bests, g_bestLongs, g_partly, g_partlyLongs, g_repaired, g_repairedLong])), (h_errorAts, .inl (tc.1, 300, .inl c_errorAts)), (h_errorKinds, .inl (tc.1, 300, .inl c_errorKinds)), (h_errorTops, .inl (tc.1, 300, .inl c_errorTops))]) (fun v3 => []) (fun v3 => [.int v3]) (fun v3 => ?_) (fun k4 hk4 => ?_)
    · exact j_iret0 C d12_error_63
    · refine j_if_ne C d12_error_22 ?_ ?_
      · refine j_iload C d12_error_30 2 rfl ?_
        refine j_if_ne C d12_error_31 ?_ ?_
        · refine j_iload C d12_error_43 2 rfl ?_
          refine j_const C d12_error_44 ?_
          refine j_icmp_ne C d12_error_45 ?_ ?_
          · refine j_aload C d12_error_57 0 rfl ?_
            refine j_get C d12_error_58 fl12_94 0 rfl rfl ?_
            refine j_iload C d12_error_61 1 rfl ?_
            refine j_iald C d12_error_62 3 rfl (fun x5 => ?_)
            exact j_sub [] rfl (hk4 _)
          · refine j_aload C d12_error_48 0 rfl ?_
            refine j_get C d12_error_49 fl12_91 0 rfl rfl ?_
            refine j_iload C d12_error_52 1 rfl ?_
            refine j_iald C d12_error_53 2 rfl (fun x6 => ?_)
            refine j_goto C d12_error_54 ?_
            exact j_sub [] rfl (hk4 _)
        · refine j_aload C d12_error_34 0 rfl ?_
          refine j_get C d12_error_35 fl12_88 0 rfl rfl ?_
          refine j_iload C d12_error_38 1 rfl ?_
          refine j_iald C d12_error_39 1 rfl (fun x7 => ?_)
          refine j_goto C d12_error_40 ?_
          exact j_sub [] rfl (hk4 _)
      · refine j_const C d12_error_25 ?_
        refine j_goto C d12_error_27 ?_
        exact j_sub [] rfl (hk4 _)
  · refine j_const C d12_error_9 ?_
    exact j_iret0 C d12_error_10

theorem d12_traceLength_0 : jda cX12_traceLength 0 0 1 := Or.inl ⟨0, by decide +kernel⟩
theorem d12_traceLength_1 : jd cX12_traceLength 1 (.getfield 299) 3 4 := by decide +kernel
theorem d12_traceLength_4 : decode cX12_traceLength 4 = .ok (.ireturn, 1) := by decide +kernel
set_option maxHeartbeats 4000000 in
set_option maxRecDepth 100000 in
theorem kX12_traceLength (l : Launch) (D : va_G) (tc : jTC) (h_ : Nat) (g_rules g_lefts g_sizes g_rights g_edits g_pastRules g_pastLefts g_pastSizes g_pastRights g_levels g_codes g_details g_asked g_isWorked g_empties g_firsts g_follows g_isKept g_keptEmpties g_keptFirsts g_keptFollows g_strings g_longs g_trial g_trialLong g_foundName g_foundToken g_foundP g_foundQ g_moved g_movedSizes g_synchronizing g_input g_inputLong g_stack g_stackParents g_top g_at g_steps g_traces g_nodes g_made g_nodeSymbols g_nodeParents g_errors g_errorAts g_errorKinds g_errorTops g_weights g_bests g_bestLongs g_partly g_partlyLongs g_repaired g_repairedLong : Value) (c_traced : Int32) : ctI0 l D tc yX12_traceLength (Cond.code yX12_traceLength cX12_traceLength 1 (some .int) :: jtb) ({ frames := 0, cells := 0, slots := 0, locals := 0 } : Room) [.ref h_] [(h_, .inr (12, [g_rules, g_lefts, g_sizes, g_rights, g_edits, g_pastRules, g_pastLefts, g_pastSizes, g_pastRights, g_levels, g_codes, g_details, g_asked, g_isWorked, g_empties, g_firsts, g_follows, g_isKept, g_keptEmpties, g_keptFirsts, g_keptFollows, g_strings, g_longs, g_trial, g_trialLong, g_foundName, g_foundToken, g_foundP, g_foundQ, g_moved, g_movedSizes, g_synchronizing, g_input, g_inputLong, g_stack, g_stackParents, g_top, g_at, g_steps, .int c_traced, g_traces, g_nodes, g_made, g_nodeSymbols, g_nodeParents, g_errors, g_errorAts, g_errorKinds, g_errorTops, g_weights, g_bests, g_bestLongs, g_partly, g_partlyLongs, g_repaired, g_repairedLong]))] (fX12_traceLength c_traced) := by
  refine ctI0_of (lv0 := [(0, .ref h_)]) (by decide +kernel) (Nat.le_of_ble_eq_true rfl) rfl (fun X C => ?_)
  unfold fX12_traceLength
  refine j_aload C d12_traceLength_0 0 rfl ?_
  refine j_get C d12_traceLength_1 fl12_299 0 rfl rfl ?_
  exact j_iret0 C d12_traceLength_4

theorem d12_trace_0 : jdi cX12_trace 0 1 1 := Or.inl ⟨1, by decide +kernel⟩
theorem d12_trace_1 : jdk cX12_trace 1 0 2 := Or.inl ⟨0, by decide +kernel⟩
theorem d12_trace_2 : jda cX12_trace 2 0 3 := Or.inl ⟨0, by decide +kernel⟩
theorem d12_trace_3 : jd cX12_trace 3 (.getfield 299) 3 6 := by decide +kernel
theorem d12_trace_6 : jdk cX12_trace 6 1 7 := Or.inl ⟨1, by decide +kernel⟩
theorem d12_trace_7 : jd cX12_trace 7 (.isub) 1 8 := by decide +kernel
theorem d12_trace_8 : jd cX12_trace 8 (.invokestatic 119) 3 11 := by decide +kernel
theorem d12_trace_11 : jdb cX12_trace 11 (.ifCond .eq 12) 12 23 14 := by decide +kernel
theorem d12_trace_14 : jda cX12_trace 14 0 15 := Or.inl ⟨0, by decide +kernel⟩
theorem d12_trace_15 : jd cX12_trace 15 (.getfield 79) 3 18 := by decide +kernel
theorem d12_trace_18 : jdi cX12_trace 18 1 19 := Or.inl ⟨1, by decide +kernel⟩
theorem d12_trace_19 : jd cX12_trace 19 (.iaload) 1 20 := by decide +kernel
theorem d12_trace_20 : jdb cX12_trace 20 (.goto 5) 5 25 23 := by decide +kernel
theorem d12_trace_23 : jdk cX12_trace 23 (-2) 25 := Or.inr (Or.inl ⟨(-2), by decide +kernel⟩)
theorem d12_trace_25 : decode cX12_trace 25 = .ok (.ireturn, 1) := by decide +kernel
set_option maxHeartbeats 4000000 in
set_option maxRecDepth 100000 in
theorem kX12_trace (l : Launch) (D : va_G) (tc : jTC) (h_ h_traces : Nat) (g_rules g_lefts g_sizes g_rights g_edits g_pastRules g_pastLefts g_pastSizes g_pastRights g_levels g_codes g_details g_asked g_isWorked g_empties g_firsts g_follows g_isKept g_keptEmpties g_keptFirsts g_keptFollows g_strings g_longs g_trial g_trialLong g_foundName g_foundToken g_foundP g_foundQ g_moved g_movedSizes g_synchronizing g_input g_inputLong g_stack g_stackParents g_top g_at g_steps g_nodes g_made g_nodeSymbols g_nodeParents g_errors g_errorAts g_errorKinds g_errorTops g_weights g_bests g_bestLongs g_partly g_partlyLongs g_repaired g_repairedLong : Value) (c_traced : Int32) (c_traces : (Nat → Int32)) (p1 : Int32) : ctI0 l D tc yX12_trace (Cond.code yX12_trace cX12_trace 2 (some .int) :: jtb) ({ frames := 1, cells := 0, slots := 0, locals := 22 } : Room) [.ref h_, .int p1] [(h_, .inr (12, [g_rules, g_lefts, g_sizes, g_rights, g_edits, g_pastRules, g_pastLefts, g_pastSizes, g_pastRights, g_levels, g_codes, g_details, g_asked, g_isWorked, g_empties, g_firsts, g_follows, g_isKept, g_keptEmpties, g_keptFirsts, g_keptFollows, g_strings, g_longs, g_trial, g_trialLong, g_foundName, g_foundToken, g_foundP, g_foundQ, g_moved, g_movedSizes, g_synchronizing, g_input, g_inputLong, g_stack, g_stackParents, g_top, g_at, g_steps, .int c_traced, .ref h_traces, g_nodes, g_made, g_nodeSymbols, g_nodeParents, g_errors, g_errorAts, g_errorKinds, g_errorTops, g_weights, g_bests, g_bestLongs, g_partly, g_partlyLongs, g_repaired, g_repairedLong])), (h_traces, .inl (tc.1, 300, .inl c_traces))] (fX12_trace c_traced c_traces p1) := by
  refine ctI0_of (lv0 := [(0, .ref h_), (1, .int p1)]) (by decide +kernel) (Nat.le_of_ble_eq_true rfl) rfl (fun X C => ?_)
  unfold fX12_trace
  refine j_iload C d12_trace_0 1 rfl ?_
  refine j_const C d12_trace_1 ?_
  refine j_aload C d12_trace_2 0 rfl ?_
  refine j_get C d12_trace_3 fl12_299 0 rfl rfl ?_
  refine j_const C d12_trace_6 ?_
  refine j_isub C d12_trace_7 ?_
  refine j_callSI0 (As := [.int p1, .int 0, .int (c_traced - (1 : Int32))]) C d12_trace_8 ms12_119 (kX12_in _ _ tc p1 0 (c_traced - (1 : Int32))) ⟨rfl, rfl, Nat.le_of_ble_eq_true rfl, Nat.le_of_ble_eq_true rfl⟩ rfl [] rfl rfl rfl (Nat.le_of_ble_eq_true rfl) (fun x1 => ?_)
  refine j_join 25 (fun v2 => [(h_, .inr (12, [g_rules, g_lefts, g_sizes, g_rights, g_edits, g_pastRules, g_pastLefts, g_pastSizes, g_pastRights, g_levels, g_codes, g_details, g_asked, g_isWorked, g_empties, g_firsts, g_follows, g_isKept, g_keptEmpties, g_keptFirsts, g_keptFollows, g_strings, g_longs, g_trial, g_trialLong, g_foundName, g_foundToken, g_foundP, g_foundQ, g_moved, g_movedSizes, g_synchronizing, g_input, g_inputLong, g_stack, g_stackParents, g_top, g_at, g_steps, .int c_traced, .ref h_traces, g_nodes, g_made, g_nodeSymbols, g_nodeParents, g_errors, g_errorAts, g_errorKinds, g_errorTops, g_weights, g_bests, g_bestLongs, g_partly, g_partlyLongs, g_repaired, g_repairedLong])), (h_traces, .inl (tc.1, 300, .inl c_traces))]) (fun v2 => []) (fun v2 => [.int v2]) (fun v2 => ?_) (fun k3 hk3 => ?_)
  · exact j_iret0 C d12_trace_25
  · refine j_if_eq C d12_trace_11 ?_ ?_
    · refine j_const C d12_trace_23 ?_
      exact j_sub [] rfl (hk3 _)
    · refine j_aload C d12_trace_14 0 rfl ?_
      refine j_get C d12_trace_15 fl12_79 0 rfl rfl ?_
      refine j_iload C d12_trace_18 1 rfl ?_
      refine j_iald C d12_trace_19 1 rfl (fun x4 => ?_)
      refine j_goto C d12_trace_20 ?_
      exact j_sub [] rfl (hk3 _)

theorem d12_nodeCount_0 : jda cX12_nodeCount 0 0 1 := Or.inl ⟨0, by decide +kernel⟩
theorem d12_nodeCount_1 : jd cX12_nodeCount 1 (.getfield 302) 3 4 := by decide +kernel
theorem d12_nodeCount_4 : decode cX12_nodeCount 4 = .ok (.ireturn, 1) := by decide +kernel
set_option maxHeartbeats 4000000 in
set_option maxRecDepth 100000 in
theorem kX12_nodeCount (l : Launch) (D : va_G) (tc : jTC) (h_ : Nat) (g_rules g_lefts g_sizes g_rights g_edits g_pastRules g_pastLefts g_pastSizes g_pastRights g_levels g_codes g_details g_asked g_isWorked g_empties g_firsts g_follows g_isKept g_keptEmpties g_keptFirsts g_keptFollows g_strings g_longs g_trial g_trialLong g_foundName g_foundToken g_foundP g_foundQ g_moved g_movedSizes g_synchronizing g_input g_inputLong g_stack g_stackParents g_top g_at g_steps g_traced g_traces g_made g_nodeSymbols g_nodeParents g_errors g_errorAts g_errorKinds g_errorTops g_weights g_bests g_bestLongs g_partly g_partlyLongs g_repaired g_repairedLong : Value) (c_nodes : Int32) : ctI0 l D tc yX12_nodeCount (Cond.code yX12_nodeCount cX12_nodeCount 1 (some .int) :: jtb) ({ frames := 0, cells := 0, slots := 0, locals := 0 } : Room) [.ref h_] [(h_, .inr (12, [g_rules, g_lefts, g_sizes, g_rights, g_edits, g_pastRules, g_pastLefts, g_pastSizes, g_pastRights, g_levels, g_codes, g_details, g_asked, g_isWorked, g_empties, g_firsts, g_follows, g_isKept, g_keptEmpties, g_keptFirsts, g_keptFollows, g_strings, g_longs, g_trial, g_trialLong, g_foundName, g_foundToken, g_foundP, g_foundQ, g_moved, g_movedSizes, g_synchronizing, g_input, g_inputLong, g_stack, g_stackParents, g_top, g_at, g_steps, g_traced, g_traces, .int c_nodes, g_made, g_nodeSymbols, g_nodeParents, g_errors, g_errorAts, g_errorKinds, g_errorTops, g_weights, g_bests, g_bestLongs, g_partly, g_partlyLongs, g_repaired, g_repairedLong]))] (fX12_nodeCount c_nodes) := by
  refine ctI0_of (lv0 := [(0, .ref h_)]) (by decide +kernel) (Nat.le_of_ble_eq_true rfl) rfl (fun X C => ?_)
  unfold fX12_nodeCount
  refine j_aload C d12_nodeCount_0 0 rfl ?_
  refine j_get C d12_nodeCount_1 fl12_302 0 rfl rfl ?_
  exact j_iret0 C d12_nodeCount_4

theorem d12_nodeSymbol_0 : jdi cX12_nodeSymbol 0 1 1 := Or.inl ⟨1, by decide +kernel⟩
theorem d12_nodeSymbol_1 : jdk cX12_nodeSymbol 1 0 2 := Or.inl ⟨0, by decide +kernel⟩
theorem d12_nodeSymbol_2 : jda cX12_nodeSymbol 2 0 3 := Or.inl ⟨0, by decide +kernel⟩
theorem d12_nodeSymbol_3 : jd cX12_nodeSymbol 3 (.getfield 302) 3 6 := by decide +kernel
theorem d12_nodeSymbol_6 : jdk cX12_nodeSymbol 6 1 7 := Or.inl ⟨1, by decide +kernel⟩
theorem d12_nodeSymbol_7 : jd cX12_nodeSymbol 7 (.isub) 1 8 := by decide +kernel
theorem d12_nodeSymbol_8 : jd cX12_nodeSymbol 8 (.invokestatic 119) 3 11 := by decide +kernel
theorem d12_nodeSymbol_11 : jdb cX12_nodeSymbol 11 (.ifCond .eq 12) 12 23 14 := by decide +kernel
theorem d12_nodeSymbol_14 : jda cX12_nodeSymbol 14 0 15 := Or.inl ⟨0, by decide +kernel⟩
theorem d12_nodeSymbol_15 : jd cX12_nodeSymbol 15 (.getfield 82) 3 18 := by decide +kernel
theorem d12_nodeSymbol_18 : jdi cX12_nodeSymbol 18 1 19 := Or.inl ⟨1, by decide +kernel⟩
theorem d12_nodeSymbol_19 : jd cX12_nodeSymbol 19 (.iaload) 1 20 := by decide +kernel
theorem d12_nodeSymbol_20 : jdb cX12_nodeSymbol 20 (.goto 5) 5 25 23 := by decide +kernel
theorem d12_nodeSymbol_23 : jdk cX12_nodeSymbol 23 (-2) 25 := Or.inr (Or.inl ⟨(-2), by decide +kernel⟩)
theorem d12_nodeSymbol_25 : decode cX12_nodeSymbol 25 = .ok (.ireturn, 1) := by decide +kernel
set_option maxHeartbeats 4000000 in
set_option maxRecDepth 100000 in
theorem kX12_nodeSymbol (l : Launch) (D : va_G) (tc : jTC) (h_ h_nodeSymbols : Nat) (g_rules g_lefts g_sizes g_rights g_edits g_pastRules g_pastLefts g_pastSizes g_pastRights g_levels g_codes g_details g_asked g_isWorked g_empties g_firsts g_follows g_isKept g_keptEmpties g_keptFirsts g_keptFollows g_strings g_longs g_trial g_trialLong g_foundName g_foundToken g_foundP g_foundQ g_moved g_movedSizes g_synchronizing g_input g_inputLong g_stack g_stackParents g_top g_at g_steps g_traced g_traces g_made g_nodeParents g_errors g_errorAts g_errorKinds g_errorTops g_weights g_bests g_bestLongs g_partly g_partlyLongs g_repaired g_repairedLong : Value) (c_nodes : Int32) (c_nodeSymbols : (Nat → Int32)) (p1 : Int32) : ctI0 l D tc yX12_nodeSymbol (Cond.code yX12_nodeSymbol cX12_nodeSymbol 2 (some .int) :: jtb) ({ frames := 1, cells := 0, slots := 0, locals := 22 } : Room) [.ref h_, .int p1] [(h_, .inr (12, [g_rules, g_lefts, g_sizes, g_rights, g_edits, g_pastRules, g_pastLefts, g_pastSizes, g_pastRights, g_levels, g_codes, g_details, g_asked, g_isWorked, g_empties, g_firsts, g_follows, g_isKept, g_keptEmpties, g_keptFirsts, g_keptFollows, g_strings, g_longs, g_trial, g_trialLong, g_foundName, g_foundToken, g_foundP, g_foundQ, g_moved, g_movedSizes, g_synchronizing, g_input, g_inputLong, g_stack, g_stackParents, g_top, g_at, g_steps, g_traced, g_traces, .int c_nodes, g_made, .ref h_nodeSymbols, g_nodeParents, g_errors, g_errorAts, g_errorKinds, g_errorTops, g_weights, g_bests, g_bestLongs, g_partly, g_partlyLongs, g_repaired, g_repairedLong])), (h_nodeSymbols, .inl (tc.1, 300, .inl c_nodeSymbols))] (fX12_nodeSymbol c_nodes c_nodeSymbols p1) := by
  refine ctI0_of (lv0 := [(0, .ref h_), (1, .int p1)]) (by decide +kernel) (Nat.le_of_ble_eq_true rfl) rfl (fun X C => ?_)
  unfold fX12_nodeSymbol
  refine j_iload C d12_nodeSymbol_0 1 rfl ?_
  refine j_const C d12_nodeSymbol_1 ?_
  refine j_aload C d12_nodeSymbol_2 0 rfl ?_
  refine j_get C d12_nodeSymbol_3 fl12_302 0 rfl rfl ?_
  refine j_const C d12_nodeSymbol_6 ?_
  refine j_isub C d12_nodeSymbol_7 ?_
  refine j_callSI0 (As := [.int p1, .int 0, .int (c_nodes - (1 : Int32))]) C d12_nodeSymbol_8 ms12_119 (kX12_in _ _ tc p1 0 (c_nodes - (1 : Int32))) ⟨rfl, rfl, Nat.le_of_ble_eq_true rfl, Nat.le_of_ble_eq_true rfl⟩ rfl [] rfl rfl rfl (Nat.le_of_ble_eq_true rfl) (fun x1 => ?_)
  refine j_join 25 (fun v2 => [(h_, .inr (12, [g_rules, g_lefts, g_sizes, g_rights, g_edits, g_pastRules, g_pastLefts, g_pastSizes, g_pastRights, g_levels, g_codes, g_details, g_asked, g_isWorked, g_empties, g_firsts, g_follows, g_isKept, g_keptEmpties, g_keptFirsts, g_keptFollows, g_strings, g_longs, g_trial, g_trialLong, g_foundName, g_foundToken, g_foundP, g_foundQ, g_moved, g_movedSizes, g_synchronizing, g_input, g_inputLong, g_stack, g_stackParents, g_top, g_at, g_steps, g_traced, g_traces, .int c_nodes, g_made, .ref h_nodeSymbols, g_nodeParents, g_errors, g_errorAts, g_errorKinds, g_errorTops, g_weights, g_bests, g_bestLongs, g_partly, g_partlyLongs, g_repaired, g_repairedLong])), (h_nodeSymbols, .inl (tc.1, 300, .inl c_nodeSymbols))]) (fun v2 => []) (fun v2 => [.int v2]) (fun v2 => ?_) (fun k3 hk3 => ?_)
  · exact j_iret0 C d12_nodeSymbol_25
  · refine j_if_eq C d12_nodeSymbol_11 ?_ ?_
    · refine j_const C d12_nodeSymbol_23 ?_
      exact j_sub [] rfl (hk3 _)
    · refine j_aload C d12_nodeSymbol_14 0 rfl ?_
      refine j_get C d12_nodeSymbol_15 fl12_82 0 rfl rfl ?_
      refine j_iload C d12_nodeSymbol_18 1 rfl ?_
      refine j_iald C d12_nodeSymbol_19 1 rfl (fun x4 => ?_)
      refine j_goto C d12_nodeSymbol_20 ?_
      exact j_sub [] rfl (hk3 _)

theorem d12_nodeParent_0 : jdi cX12_nodeParent 0 1 1 := Or.inl ⟨1, by decide +kernel⟩
theorem d12_nodeParent_1 : jdk cX12_nodeParent 1 0 2 := Or.inl ⟨0, by decide +kernel⟩
theorem d12_nodeParent_2 : jda cX12_nodeParent 2 0 3 := Or.inl ⟨0, by decide +kernel⟩
theorem d12_nodeParent_3 : jd cX12_nodeParent 3 (.getfield 302) 3 6 := by decide +kernel
theorem d12_nodeParent_6 : jdk cX12_nodeParent 6 1 7 := Or.inl ⟨1, by decide +kernel⟩
theorem d12_nodeParent_7 : jd cX12_nodeParent 7 (.isub) 1 8 := by decide +kernel
theorem d12_nodeParent_8 : jd cX12_nodeParent 8 (.invokestatic 119) 3 11 := by decide +kernel
theorem d12_nodeParent_11 : jdb cX12_nodeParent 11 (.ifCond .eq 12) 12 23 14 := by decide +kernel
theorem d12_nodeParent_14 : jda cX12_nodeParent 14 0 15 := Or.inl ⟨0, by decide +kernel⟩
theorem d12_nodeParent_15 : jd cX12_nodeParent 15 (.getfield 85) 3 18 := by decide +kernel
theorem d12_nodeParent_18 : jdi cX12_nodeParent 18 1 19 := Or.inl ⟨1, by decide +kernel⟩
theorem d12_nodeParent_19 : jd cX12_nodeParent 19 (.iaload) 1 20 := by decide +kernel
theorem d12_nodeParent_20 : jdb cX12_nodeParent 20 (.goto 5) 5 25 23 := by decide +kernel
theorem d12_nodeParent_23 : jdk cX12_nodeParent 23 (-2) 25 := Or.inr (Or.inl ⟨(-2), by decide +kernel⟩)
theorem d12_nodeParent_25 : decode cX12_nodeParent 25 = .ok (.ireturn, 1) := by decide +kernel
set_option maxHeartbeats 4000000 in
set_option maxRecDepth 100000 in
theorem kX12_nodeParent (l : Launch) (D : va_G) (tc : jTC) (h_ h_nodeParents : Nat) (g_rules g_lefts g_sizes g_rights g_edits g_pastRules g_pastLefts g_pastSizes g_pastRights g_levels g_codes g_details g_asked g_isWorked g_empties g_firsts g_follows g_isKept g_keptEmpties g_keptFirsts g_keptFollows g_strings g_longs g_trial g_trialLong g_foundName g_foundToken g_foundP g_foundQ g_moved g_movedSizes g_synchronizing g_input g_inputLong g_stack g_stackParents g_top g_at g_steps g_traced g_traces g_made g_nodeSymbols g_errors g_errorAts g_errorKinds g_errorTops g_weights g_bests g_bestLongs g_partly g_partlyLongs g_repaired g_repairedLong : Value) (c_nodes : Int32) (c_nodeParents : (Nat → Int32)) (p1 : Int32) : ctI0 l D tc yX12_nodeParent (Cond.code yX12_nodeParent cX12_nodeParent 2 (some .int) :: jtb) ({ frames := 1, cells := 0, slots := 0, locals := 22 } : Room) [.ref h_, .int p1] [(h_, .inr (12, [g_rules, g_lefts, g_sizes, g_rights, g_edits, g_pastRules, g_pastLefts, g_pastSizes, g_pastRights, g_levels, g_codes, g_details, g_asked, g_isWorked, g_empties, g_firsts, g_follows, g_isKept, g_keptEmpties, g_keptFirsts, g_keptFollows, g_strings, g_longs, g_trial, g_trialLong, g_foundName, g_foundToken, g_foundP, g_foundQ, g_moved, g_movedSizes, g_synchronizing, g_input, g_inputLong, g_stack, g_stackParents, g_top, g_at, g_steps, g_traced, g_traces, .int c_nodes, g_made, g_nodeSymbols, .ref h_nodeParents, g_errors, g_errorAts, g_errorKinds, g_errorTops, g_weights, g_bests, g_bestLongs, g_partly, g_partlyLongs, g_repaired, g_repairedLong])), (h_nodeParents, .inl (tc.1, 300, .inl c_nodeParents))] (fX12_nodeParent c_nodes c_nodeParents p1) := by
  refine ctI0_of (lv0 := [(0, .ref h_), (1, .int p1)]) (by decide +kernel) (Nat.le_of_ble_eq_true rfl) rfl (fun X C => ?_)
  unfold fX12_nodeParent
  refine j_iload C d12_nodeParent_0 1 rfl ?_
  refine j_const C d12_nodeParent_1 ?_
  refine j_aload C d12_nodeParent_2 0 rfl ?_
  refine j_get C d12_nodeParent_3 fl12_302 0 rfl rfl ?_
  refine j_const C d12_nodeParent_6 ?_
  refine j_isub C d12_nodeParent_7 ?_
  refine j_callSI0 (As := [.int p1, .int 0, .int (c_nodes - (1 : Int32))]) C d12_nodeParent_8 ms12_119 (kX12_in _ _ tc p1 0 (c_nodes - (1 : Int32))) ⟨rfl, rfl, Nat.le_of_ble_eq_true rfl, Nat.le_of_ble_eq_true rfl⟩ rfl [] rfl rfl rfl (Nat.le_of_ble_eq_true rfl) (fun x1 => ?_)
  refine j_join 25 (fun v2 => [(h_, .inr (12, [g_rules, g_lefts, g_sizes, g_rights, g_edits, g_pastRules, g_pastLefts, g_pastSizes, g_pastRights, g_levels, g_codes, g_details, g_asked, g_isWorked, g_empties, g_firsts, g_follows, g_isKept, g_keptEmpties, g_keptFirsts, g_keptFollows, g_strings, g_longs, g_trial, g_trialLong, g_foundName, g_foundToken, g_foundP, g_foundQ, g_moved, g_movedSizes, g_synchronizing, g_input, g_inputLong, g_stack, g_stackParents, g_top, g_at, g_steps, g_traced, g_traces, .int c_nodes, g_made, g_nodeSymbols, .ref h_nodeParents, g_errors, g_errorAts, g_errorKinds, g_errorTops, g_weights, g_bests, g_bestLongs, g_partly, g_partlyLongs, g_repaired, g_repairedLong])), (h_nodeParents, .inl (tc.1, 300, .inl c_nodeParents))]) (fun v2 => []) (fun v2 => [.int v2]) (fun v2 => ?_) (fun k3 hk3 => ?_)
  · exact j_iret0 C d12_nodeParent_25
  · refine j_if_eq C d12_nodeParent_11 ?_ ?_
    · refine j_const C d12_nodeParent_23 ?_
      exact j_sub [] rfl (hk3 _)
    · refine j_aload C d12_nodeParent_14 0 rfl ?_
      refine j_get C d12_nodeParent_15 fl12_85 0 rfl rfl ?_
      refine j_iload C d12_nodeParent_18 1 rfl ?_
      refine j_iald C d12_nodeParent_19 1 rfl (fun x4 => ?_)
      refine j_goto C d12_nodeParent_20 ?_
      exact j_sub [] rfl (hk3 _)

theorem d12_nodeHeight_0 : jdi cX12_nodeHeight 0 1 1 := Or.inl ⟨1, by decide +kernel⟩
theorem d12_nodeHeight_1 : jdk cX12_nodeHeight 1 0 2 := Or.inl ⟨0, by decide +kernel⟩
theorem d12_nodeHeight_2 : jda cX12_nodeHeight 2 0 3 := Or.inl ⟨0, by decide +kernel⟩
theorem d12_nodeHeight_3 : jd cX12_nodeHeight 3 (.getfield 302) 3 6 := by decide +kernel
theorem d12_nodeHeight_6 : jdk cX12_nodeHeight 6 1 7 := Or.inl ⟨1, by decide +kernel⟩
theorem d12_nodeHeight_7 : jd cX12_nodeHeight 7 (.isub) 1 8 := by decide +kernel
theorem d12_nodeHeight_8 : jd cX12_nodeHeight 8 (.invokestatic 119) 3 11 := by decide +kernel
theorem d12_nodeHeight_11 : jdb cX12_nodeHeight 11 (.ifCond .ne 6) 6 17 14 := by decide +kernel
theorem d12_nodeHeight_14 : jdk cX12_nodeHeight 14 (-2) 16 := Or.inr (Or.inl ⟨(-2), by decide +kernel⟩)
theorem d12_nodeHeight_16 : decode cX12_nodeHeight 16 = .ok (.ireturn, 1) := by decide +kernel
theorem d12_nodeHeight_17 : jdk cX12_nodeHeight 17 0 18 := Or.inl ⟨0, by decide +kernel⟩
theorem d12_nodeHeight_18 : jds cX12_nodeHeight 18 2 19 := Or.inl ⟨2, by decide +kernel⟩
theorem d12_nodeHeight_19 : jdi cX12_nodeHeight 19 1 20 := Or.inl ⟨1, by decide +kernel⟩
theorem d12_nodeHeight_20 : jds cX12_nodeHeight 20 3 21 := Or.inl ⟨3, by decide +kernel⟩
theorem d12_nodeHeight_21 : jdi cX12_nodeHeight 21 3 22 := Or.inl ⟨3, by decide +kernel⟩
theorem d12_nodeHeight_22 : jda cX12_nodeHeight 22 0 23 := Or.inl ⟨0, by decide +kernel⟩
theorem d12_nodeHeight_23 : jd cX12_nodeHeight 23 (.getfield 302) 3 26 := by decide +kernel
theorem d12_nodeHeight_26 : jdb cX12_nodeHeight 26 (.if_icmp .ge 55) 55 81 29 := by decide +kernel
theorem d12_nodeHeight_29 : jdi cX12_nodeHeight 29 3 30 := Or.inl ⟨3, by decide +kernel⟩
theorem d12_nodeHeight_30 : jds cX12_nodeHeight 30 4 32 := Or.inr (by decide +kernel)
theorem d12_nodeHeight_32 : jdk cX12_nodeHeight 32 0 33 := Or.inl ⟨0, by decide +kernel⟩
theorem d12_nodeHeight_33 : jds cX12_nodeHeight 33 5 35 := Or.inr (by decide +kernel)
theorem d12_nodeHeight_35 : jdi cX12_nodeHeight 35 4 37 := Or.inr (by decide +kernel)
theorem d12_nodeHeight_37 : jdi cX12_nodeHeight 37 1 38 := Or.inl ⟨1, by decide +kernel⟩
theorem d12_nodeHeight_38 : jdb cX12_nodeHeight 38 (.if_icmp .le 18) 18 56 41 := by decide +kernel
theorem d12_nodeHeight_41 : jda cX12_nodeHeight 41 0 42 := Or.inl ⟨0, by decide +kernel⟩
theorem d12_nodeHeight_42 : jd cX12_nodeHeight 42 (.getfield 85) 3 45 := by decide +kernel
theorem d12_nodeHeight_45 : jdi cX12_nodeHeight 45 4 47 := Or.inr (by decide +kernel)
theorem d12_nodeHeight_47 : jd cX12_nodeHeight 47 (.iaload) 1 48 := by decide +kernel
theorem d12_nodeHeight_48 : jds cX12_nodeHeight 48 4 50 := Or.inr (by decide +kernel)
theorem d12_nodeHeight_50 : jd cX12_nodeHeight 50 (.iinc 5 1) 3 53 := by decide +kernel
theorem d12_nodeHeight_53 : jdb cX12_nodeHeight 53 (.goto (-18)) (-18) 35 56 := by decide +kernel
theorem d12_nodeHeight_56 : jdi cX12_nodeHeight 56 4 58 := Or.inr (by decide +kernel)
theorem d12_nodeHeight_58 : jdi cX12_nodeHeight 58 1 59 := Or.inl ⟨1, by decide +kernel⟩
theorem d12_nodeHeight_59 : jdb cX12_nodeHeight 59 (.if_icmp .ne 14) 14 73 62 := by decide +kernel
theorem d12_nodeHeight_62 : jdi cX12_nodeHeight 62 5 64 := Or.inr (by decide +kernel)
theorem d12_nodeHeight_64 : jdi cX12_nodeHeight 64 2 65 := Or.inl ⟨2, by decide +kernel⟩
theorem d12_nodeHeight_65 : jdb cX12_nodeHeight 65 (.if_icmp .le 8) 8 73 68 := by decide +kernel
theorem d12_nodeHeight_68 : jdi cX12_nodeHeight 68 5 70 := Or.inr (by decide +kernel)
theorem d12_nodeHeight_70 : jdb cX12_nodeHeight 70 (.goto 4) 4 74 73 := by decide +kernel
theorem d12_nodeHeight_73 : jdi cX12_nodeHeight 73 2 74 := Or.inl ⟨2, by decide +kernel⟩
theorem d12_nodeHeight_74 : jds cX12_nodeHeight 74 2 75 := Or.inl ⟨2, by decide +kernel⟩
theorem d12_nodeHeight_75 : jd cX12_nodeHeight 75 (.iinc 3 1) 3 78 := by decide +kernel
theorem d12_nodeHeight_78 : jdb cX12_nodeHeight 78 (.goto (-57)) (-57) 21 81 := by decide +kernel
theorem d12_nodeHeight_81 : jdi cX12_nodeHeight 81 2 82 := Or.inl ⟨2, by decide +kernel⟩
theorem d12_nodeHeight_82 : decode cX12_nodeHeight 82 = .ok (.ireturn, 1) := by decide +kernel
set_option maxHeartbeats 4000000 in
set_option maxRecDepth 100000 in
theorem wX12_nodeHeight_35 {X : jC} {tc : jTC} (C : jx X cX12_nodeHeight 6 RX12 (some .int) tc ({ frames := 1, cells := 0, slots := 0, locals := 22 } : Room)) (h_ h_nodeParents : Nat) (g_rules g_lefts g_sizes g_rights g_edits g_pastRules g_pastLefts g_pastSizes g_pastRights g_levels g_codes g_details g_asked g_isWorked g_empties g_firsts g_follows g_isKept g_keptEmpties g_keptFirsts g_keptFollows g_strings g_longs g_trial g_trialLong g_foundName g_foundToken g_foundP g_foundQ g_moved g_movedSizes g_synchronizing g_input g_inputLong g_stack g_stackParents g_top g_at g_steps g_traced g_traces g_made g_nodeSymbols g_errors g_errorAts g_errorKinds g_errorTops g_weights g_bests g_bestLongs g_partly g_partlyLongs g_repaired g_repairedLong : Value) (p1 : Int32) (c_nodes : Int32) (c_nodeParents : (Nat → Int32)) (v4 : Int32) (v5 : Int32) (k14 : (Int32 → Int32 → Option (Int32))) (hk14 : ∀ (v20 : Int32) (v21 : Int32), jo X 6 (0, 0) (jQI0 X [(h_, .inr (12, [g_rules, g_lefts, g_sizes, g_rights, g_edits, g_pastRules, g_pastLefts, g_pastSizes, g_pastRights, g_levels, g_codes, g_details, g_asked, g_isWorked, g_empties, g_firsts, g_follows, g_isKept, g_keptEmpties, g_keptFirsts, g_keptFollows, g_strings, g_longs, g_trial, g_trialLong, g_foundName, g_foundToken, g_foundP, g_foundQ, g_moved, g_movedSizes, g_synchronizing, g_input, g_inputLong, g_stack, g_stackParents, g_top, g_at, g_steps, g_traced, g_traces, .int c_nodes, g_made, g_nodeSymbols, .ref h_nodeParents, g_errors, g_errorAts, g_errorKinds, g_errorTops, g_weights, g_bests, g_bestLongs, g_partly, g_partlyLongs, g_repaired, g_repairedLong])), (h_nodeParents, .inl (tc.1, 300, .inl c_nodeParents))]) (k14 v20 v21) [(h_, .inr (12, [g_rules, g_lefts, g_sizes, g_rights, g_edits, g_pastRules, g_pastLefts, g_pastSizes, g_pastRights, g_levels, g_codes, g_details, g_asked, g_isWorked, g_empties, g_firsts, g_follows, g_isKept, g_keptEmpties, g_keptFirsts, g_keptFollows, g_strings, g_longs, g_trial, g_trialLong, g_foundName, g_foundToken, g_foundP, g_foundQ, g_moved, g_movedSizes, g_synchronizing, g_input, g_inputLong, g_stack, g_stackParents, g_top, g_at, g_steps, g_traced, g_traces, .int c_nodes, g_made, g_nodeSymbols, .ref h_nodeParents, g_errors, g_errorAts, g_errorKinds, g_errorTops, g_weights, g_bests, g_bestLongs, g_partly, g_partlyLongs, g_repaired, g_repairedLong])), (h_nodeParents, .inl (tc.1, 300, .inl c_nodeParents))] 56 [(0, .ref h_), (1, .int p1), (2, .int v4), (3, .int v5), (4, .int v20), (5, .int v21)] []) (rc17 : Int32 → Int32 → Option (Int32)) (hrc17 : ∀ (v15 : Int32) (v16 : Int32), jo X 6 (0, 0) (jQI0 X [(h_, .inr (12, [g_rules, g_lefts, g_sizes, g_rights, g_edits, g_pastRules, g_pastLefts, g_pastSizes, g_pastRights, g_levels, g_codes, g_details, g_asked, g_isWorked, g_empties, g_firsts, g_follows, g_isKept, g_keptEmpties, g_keptFirsts, g_keptFollows, g_strings, g_longs, g_trial, g_trialLong, g_foundName, g_foundToken, g_foundP, g_foundQ, g_moved, g_movedSizes, g_synchronizing, g_input, g_inputLong, g_stack, g_stackParents, g_top, g_at, g_steps, g_traced, g_traces, .int c_nodes, g_made, g_nodeSymbols, .ref h_nodeParents, g_errors, g_errorAts, g_errorKinds, g_errorTops, g_weights, g_bests, g_bestLongs, g_partly, g_partlyLongs, g_repaired, g_repairedLong])), (h_nodeParents, .inl (tc.1, 300, .inl c_nodeParents))]) (rc17 v15 v16) [(h_, .inr (12, [g_rules, g_lefts, g_sizes, g_rights, g_edits, g_pastRules, g_pastLefts, g_pastSizes, g_pastRights, g_levels, g_codes, g_details, g_asked, g_isWorked, g_empties, g_firsts, g_follows, g_isKept, g_keptEmpties, g_keptFirsts, g_keptFollows, g_strings, g_longs, g_trial, g_trialLong, g_foundName, g_foundToken, g_foundP, g_foundQ, g_moved, g_movedSizes, g_synchronizing, g_input, g_inputLong, g_stack, g_stackParents, g_top, g_at, g_steps, g_traced, g_traces, .int c_nodes, g_made, g_nodeSymbols, .ref h_nodeParents, g_errors, g_errorAts, g_errorKinds, g_errorTops, g_weights, g_bests, g_bestLongs, g_partly, g_partlyLongs, g_repaired, g_repairedLong])), (h_nodeParents, .inl (tc.1, 300, .inl c_nodeParents))] 35 [(0, .ref h_), (1, .int p1), (2, .int v4), (3, .int v5), (4, .int v15), (5, .int v16)] []) (v15 : Int32) (v16 : Int32) : jo X 6 (0, 0) (jQI0 X [(h_, .inr (12, [g_rules, g_lefts, g_sizes, g_rights, g_edits, g_pastRules, g_pastLefts, g_pastSizes, g_pastRights, g_levels, g_codes, g_details, g_asked, g_isWorked, g_empties, g_firsts, g_follows, g_isKept, g_keptEmpties, g_keptFirsts, g_keptFollows, g_strings, g_longs, g_trial, g_trialLong, g_foundName, g_foundToken, g_foundP, g_foundQ, g_moved, g_movedSizes, g_synchronizing, g_input, g_inputLong, g_stack, g_stackParents, g_top, g_at, g_steps, g_traced, g_traces, .int c_nodes, g_made, g_nodeSymbols, .ref h_nodeParents, g_errors, g_errorAts, g_errorKinds, g_errorTops, g_weights, g_bests, g_bestLongs, g_partly, g_partlyLongs, g_repaired, g_repairedLong])), (h_nodeParents, .inl (tc.1, 300, .inl c_nodeParents))]) (bX12_nodeHeight_35 p1 c_nodeParents k14 rc17 v15 v16) [(h_, .inr (12, [g_rules, g_lefts, g_sizes, g_rights, g_edits, g_pastRules, g_pastLefts, g_pastSizes, g_pastRights, g_levels, g_codes, g_details, g_asked, g_isWorked, g_empties, g_firsts, g_follows, g_isKept, g_keptEmpties, g_keptFirsts, g_keptFollows, g_strings, g_longs, g_trial, g_trialLong, g_foundName, g_foundToken, g_foundP, g_foundQ, g_moved, g_movedSizes, g_synchronizing, g_input, g_inputLong, g_stack, g_stackParents, g_top, g_at, g_steps, g_traced, g_traces, .int c_nodes, g_made, g_nodeSymbols, .ref h_nodeParents, g_errors, g_errorAts, g_errorKinds, g_errorTops, g_weights, g_bests, g_bestLongs, g_partly, g_partlyLongs, g_repaired, g_repairedLong])), (h_nodeParents, .inl (tc.1, 300, .inl c_nodeParents))] 35 [(0, .ref h_), (1, .int p1), (2, .int v4), (3, .int v5), (4, .int v15), (5, .int v16)] [] := by
  unfold bX12_nodeHeight_35
  refine j_iload C d12_nodeHeight_35 4 rfl ?_
  refine j_iload C d12_nodeHeight_37 1 rfl ?_
  refine j_icmp_le C d12_nodeHeight_38 ?_ ?_
  · exact hk14 _ _
  · refine j_aload C d12_nodeHeight_41 0 rfl ?_
    refine j_get C d12_nodeHeight_42 fl12_85 0 rfl rfl ?_
    refine j_iload C d12_nodeHeight_45 4 rfl ?_
    refine j_iald C d12_nodeHeight_47 1 rfl (fun x18 => ?_)
    refine j_istore C d12_nodeHeight_48 (by decide) (lv' := [(4, .int x18), (0, .ref h_), (1, .int p1), (2, .int v4), (3, .int v5), (5, .int v16)]) rfl ?_
    refine j_iincN C (fun x19 => [(5, .int x19), (4, .int x18), (0, .ref h_), (1, .int p1), (2, .int v4), (3, .int v5)]) d12_nodeHeight_50 5 rfl (by decide +kernel) (by decide) (fun _ => rfl) (fun x19 => ?_)
    refine j_goto C d12_nodeHeight_53 ?_
    exact j_sub [2, 3, 4, 5, 1, 0] rfl (hrc17 _ _)

set_option maxHeartbeats 4000000 in
set_option maxRecDepth 100000 in
theorem wX12_nodeHeight_21 {X : jC} {tc : jTC} (C : jx X cX12_nodeHeight 6 RX12 (some .int) tc ({ frames := 1, cells := 0, slots := 0, locals := 22 } : Room)) (N : Nat) (h_ h_nodeParents : Nat) (g_rules g_lefts g_sizes g_rights g_edits g_pastRules g_pastLefts g_pastSizes g_pastRights g_levels g_codes g_details g_asked g_isWorked g_empties g_firsts g_follows g_isKept g_keptEmpties g_keptFirsts g_keptFollows g_strings g_longs g_trial g_trialLong g_foundName g_foundToken g_foundP g_foundQ g_moved g_movedSizes g_synchronizing g_input g_inputLong g_stack g_stackParents g_top g_at g_steps g_traced g_traces g_made g_nodeSymbols g_errors g_errorAts g_errorKinds g_errorTops g_weights g_bests g_bestLongs g_partly g_partlyLongs g_repaired g_repairedLong : Value) (p1 : Int32) (c_nodes : Int32) (c_nodeParents : (Nat → Int32)) (k3 : (Int32 → Option (Int32))) (hk3 : ∀ (v22 : Int32), jo X 6 (0, 0) (jQI0 X [(h_, .inr (12, [g_rules, g_lefts, g_sizes, g_rights, g_edits, g_pastRules, g_pastLefts, g_pastSizes, g_pastRights, g_levels, g_codes, g_details, g_asked, g_isWorked, g_empties, g_firsts, g_follows, g_isKept, g_keptEmpties, g_keptFirsts, g_keptFollows, g_strings, g_longs, g_trial, g_trialLong, g_foundName, g_foundToken, g_foundP, g_foundQ, g_moved, g_movedSizes, g_synchronizing, g_input, g_inputLong, g_stack, g_stackParents, g_top, g_at, g_steps, g_traced, g_traces, .int c_nodes, g_made, g_nodeSymbols, .ref h_nodeParents, g_errors, g_errorAts, g_errorKinds, g_errorTops, g_weights, g_bests, g_bestLongs, g_partly, g_partlyLongs, g_repaired, g_repairedLong])), (h_nodeParents, .inl (tc.1, 300, .inl c_nodeParents))]) (k3 v22) [(h_, .inr (12, [g_rules, g_lefts, g_sizes, g_rights, g_edits, g_pastRules, g_pastLefts, g_pastSizes, g_pastRights, g_levels, g_codes, g_details, g_asked, g_isWorked, g_empties, g_firsts, g_follows, g_isKept, g_keptEmpties, g_keptFirsts, g_keptFollows, g_strings, g_longs, g_trial, g_trialLong, g_foundName, g_foundToken, g_foundP, g_foundQ, g_moved, g_movedSizes, g_synchronizing, g_input, g_inputLong, g_stack, g_stackParents, g_top, g_at, g_steps, g_traced, g_traces, .int c_nodes, g_made, g_nodeSymbols, .ref h_nodeParents, g_errors, g_errorAts, g_errorKinds, g_errorTops, g_weights, g_bests, g_bestLongs, g_partly, g_partlyLongs, g_repaired, g_repairedLong])), (h_nodeParents, .inl (tc.1, 300, .inl c_nodeParents))] 81 [(2, .int v22)] []) (rc6 : Int32 → Int32 → Option (Int32)) (hrc6 : ∀ (v4 : Int32) (v5 : Int32), jo X 6 (0, 0) (jQI0 X [(h_, .inr (12, [g_rules, g_lefts, g_sizes, g_rights, g_edits, g_pastRules, g_pastLefts, g_pastSizes, g_pastRights, g_levels, g_codes, g_details, g_asked, g_isWorked, g_empties, g_firsts, g_follows, g_isKept, g_keptEmpties, g_keptFirsts, g_keptFollows, g_strings, g_longs, g_trial, g_trialLong, g_foundName, g_foundToken, g_foundP, g_foundQ, g_moved, g_movedSizes, g_synchronizing, g_input, g_inputLong, g_stack, g_stackParents, g_top, g_at, g_steps, g_traced, g_traces, .int c_nodes, g_made, g_nodeSymbols, .ref h_nodeParents, g_errors, g_errorAts, g_errorKinds, g_errorTops, g_weights, g_bests, g_bestLongs, g_partly, g_partlyLongs, g_repaired, g_repairedLong])), (h_nodeParents, .inl (tc.1, 300, .inl c_nodeParents))]) (rc6 v4 v5) [(h_, .inr (12, [g_rules, g_lefts, g_sizes, g_rights, g_edits, g_pastRules, g_pastLefts, g_pastSizes, g_pastRights, g_levels, g_codes, g_details, g_asked, g_isWorked, g_empties, g_firsts, g_follows, g_isKept, g_keptEmpties, g_keptFirsts, g_keptFollows, g_strings, g_longs, g_trial, g_trialLong, g_foundName, g_foundToken, g_foundP, g_foundQ, g_moved, g_movedSizes, g_synchronizing, g_input, g_inputLong, g_stack, g_stackParents, g_top, g_at, g_steps, g_traced, g_traces, .int c_nodes, g_made, g_nodeSymbols, .ref h_nodeParents, g_errors, g_errorAts, g_errorKinds, g_errorTops, g_weights, g_bests, g_bestLongs, g_partly, g_partlyLongs, g_repaired, g_repairedLong])), (h_nodeParents, .inl (tc.1, 300, .inl c_nodeParents))] 21 [(0, .ref h_), (1, .int p1), (2, .int v4), (3, .int v5)] []) (v4 : Int32) (v5 : Int32) : jo X 6 (0, 0) (jQI0 X [(h_, .inr (12, [g_rules, g_lefts, g_sizes, g_rights, g_edits, g_pastRules, g_pastLefts, g_pastSizes, g_pastRights, g_levels, g_codes, g_details, g_asked, g_isWorked, g_empties, g_firsts, g_follows, g_isKept, g_keptEmpties, g_keptFirsts, g_keptFollows, g_strings, g_longs, g_trial, g_trialLong, g_foundName, g_foundToken, g_foundP, g_foundQ, g_moved, g_movedSizes, g_synchronizing, g_input, g_inputLong, g_stack, g_stackParents, g_top, g_at, g_steps, g_traced, g_traces, .int c_nodes, g_made, g_nodeSymbols, .ref h_nodeParents, g_errors, g_errorAts, g_errorKinds, g_errorTops, g_weights, g_bests, g_bestLongs, g_partly, g_partlyLongs, g_repaired, g_repairedLong])), (h_nodeParents, .inl (tc.1, 300, .inl c_nodeParents))]) (bX12_nodeHeight_21 N p1 c_nodes c_nodeParents k3 rc6 v4 v5) [(h_, .inr (12, [g_rules, g_lefts, g_sizes, g_rights, g_edits, g_pastRules, g_pastLefts, g_pastSizes, g_pastRights, g_levels, g_codes, g_details, g_asked, g_isWorked, g_empties, g_firsts, g_follows, g_isKept, g_keptEmpties, g_keptFirsts, g_keptFollows, g_strings, g_longs, g_trial, g_trialLong, g_foundName, g_foundToken, g_foundP, g_foundQ, g_moved, g_movedSizes, g_synchronizing, g_input, g_inputLong, g_stack, g_stackParents, g_top, g_at, g_steps, g_traced, g_traces, .int c_nodes, g_made, g_nodeSymbols, .ref h_nodeParents, g_errors, g_errorAts, g_errorKinds, g_errorTops, g_weights, g_bests, g_bestLongs, g_partly, g_partlyLongs, g_repaired, g_repairedLong])), (h_nodeParents, .inl (tc.1, 300, .inl c_nodeParents))] 21 [(0, .ref h_), (1, .int p1), (2, .int v4), (3, .int v5)] [] := by
  unfold bX12_nodeHeight_21
  refine j_iload C d12_nodeHeight_21 3 rfl ?_
  refine j_aload C d12_nodeHeight_22 0 rfl ?_
  refine j_get C d12_nodeHeight_23 fl12_302 0 rfl rfl ?_
  refine j_icmp_ge C d12_nodeHeight_26 ?_ ?_
  · exact j_sub [2] rfl (hk3 _)
  · refine j_iload C d12_nodeHeight_29 3 rfl ?_
    refine j_istore C d12_nodeHeight_30 (by decide) (lv' := [(4, .int v5), (0, .ref h_), (1, .int p1), (2, .int v4), (3, .int v5)]) rfl ?_
    refine j_const C d12_nodeHeight_32 ?_
    refine j_istore C d12_nodeHeight_33 (by decide) (lv' := [(5, .int 0), (4, .int v5), (0, .ref h_), (1, .int p1), (2, .int v4), (3, .int v5)]) rfl ?_
    refine j_join2 56 (fun v7 v8 => [(h_, .inr (12, [g_rules, g_lefts, g_sizes, g_rights, g_edits, g_pastRules, g_pastLefts, g_pastSizes, g_pastRights, g_levels, g_codes, g_details, g_asked, g_isWorked, g_empties, g_firsts, g_follows, g_isKept, g_keptEmpties, g_keptFirsts, g_keptFollows, g_strings, g_longs, g_trial, g_trialLong, g_foundName, g_foundToken, g_foundP, g_foundQ, g_moved, g_movedSizes, g_synchronizing, g_input, g_inputLong, g_stack, g_stackParents, g_top, g_at, g_steps, g_traced, g_traces, .int c_nodes, g_made, g_nodeSymbols, .ref h_nodeParents, g_errors, g_errorAts, g_errorKinds, g_errorTops, g_weights, g_bests, g_bestLongs, g_partly, g_partlyLongs, g_repaired, g_repairedLong])), (h_nodeParents, .inl (tc.1, 300, .inl c_nodeParents))]) (fun v7 v8 => [(0, .ref h_), (1, .int p1), (2, .int v4), (3, .int v5), (4, .int v7), (5, .int v8)]) (fun v7 v8 => []) (fun v7 v8 => ?_) (fun k14 hk14 => ?_)
    · refine j_iload C d12_nodeHeight_56 4 rfl ?_
      refine j_iload C d12_nodeHeight_58 1 rfl ?_
      refine j_join 74 (fun v9 => [(h_, .inr (12, [g_rules, g_lefts, g_sizes, g_rights, g_edits, g_pastRules, g_pastLefts, g_pastSizes, g_pastRights, g_levels, g_codes, g_details, g_asked, g_isWorked, g_empties, g_firsts, g_follows, g_isKept, g_keptEmpties, g_keptFirsts, g_keptFollows, g_strings, g_longs, g_trial, g_trialLong, g_foundName, g_foundToken, g_foundP, g_foundQ, g_moved, g_movedSizes, g_synchronizing, g_input, g_inputLong, g_stack, g_stackParents, g_top, g_at, g_steps, g_traced, g_traces, .int c_nodes, g_made, g_nodeSymbols, .ref h_nodeParents, g_errors, g_errorAts, g_errorKinds, g_errorTops, g_weights, g_bests, g_bestLongs, g_partly, g_partlyLongs, g_repaired, g_repairedLong])), (h_nodeParents, .inl (tc.1, 300, .inl c_nodeParents))]) (fun v9 => [(0, .ref h_), (1, .int p1), (3, .int v5)]) (fun v9 => [.int v9]) (fun v9 => ?_) (fun k11 hk11 => ?_)
      · refine j_istore C d12_nodeHeight_74 (by decide) (lv' := [(2, .int v9), (0, .ref h_), (1, .int p1), (3, .int v5)]) rfl ?_
        refine j_iincN C (fun x10 => [(3, .int x10), (2, .int v9), (0, .ref h_), (1, .int p1)]) d12_nodeHeight_75 3 rfl (by decide +kernel) (by decide) (fun _ => rfl) (fun x10 => ?_)
        refine j_goto C d12_nodeHeight_78 ?_
        exact j_sub [2, 3, 1, 0] rfl (hrc6 _ _)
      · refine j_join 73 (fun v12 => [(h_, .inr (12, [g_rules, g_lefts, g_sizes, g_rights, g_edits, g_pastRules, g_pastLefts, g_pastSizes, g_pastRights, g_levels, g_codes, g_details, g_asked, g_isWorked, g_empties, g_firsts, g_follows, g_isKept, g_keptEmpties, g_keptFirsts, g_keptFollows, g_strings, g_longs, g_trial, g_trialLong, g_foundName, g_foundToken, g_foundP, g_foundQ, g_moved, g_movedSizes, g_synchronizing, g_input, g_inputLong, g_stack, g_stackParents, g_top, g_at, g_steps, g_traced, g_traces, .int c_nodes, g_made, g_nodeSymbols, .ref h_nodeParents, g_errors, g_errorAts, g_errorKinds, g_errorTops, g_weights, g_bests, g_bestLongs, g_partly, g_partlyLongs, g_repaired, g_repairedLong])), (h_nodeParents, .inl (tc.1, 300, .inl c_nodeParents))]) (fun v12 => [(0, .ref h_), (1, .int p1), (2, .int v4), (3, .int v5)]) (fun v12 => []) (fun v12 => ?_) (fun k13 hk13 => ?_)
        · refine j_iload C d12_nodeHeight_73 2 rfl ?_
          exact j_sub [0, 1, 3] rfl (hk11 _)
        · refine j_icmp_ne C d12_nodeHeight_59 ?_ ?_
          · exact j_sub [0, 1, 2, 3] rfl (hk13 _)
          · refine j_iload C d12_nodeHeight_62 5 rfl ?_
            refine j_iload C d12_nodeHeight_64 2 rfl ?_
            refine j_icmp_le C d12_nodeHeight_65 ?_ ?_
            · exact j_sub [0, 1, 2, 3] rfl (hk13 _)
            · refine j_iload C d12_nodeHeight_68 5 rfl ?_
              refine j_goto C d12_nodeHeight_70 ?_
              exact j_sub [0, 1, 3] rfl (hk11 _)
    · exact j_sub [2, 3, 4, 5, 1, 0] rfl (j_loop2 (fun v15 v16 => [(h_, .inr (12, [g_rules, g_lefts, g_sizes, g_rights, g_edits, g_pastRules, g_pastLefts, g_pastSizes, g_pastRights, g_levels, g_codes, g_details, g_asked, g_isWorked, g_empties, g_firsts, g_follows, g_isKept, g_keptEmpties, g_keptFirsts, g_keptFollows, g_strings, g_longs, g_trial, g_trialLong, g_foundName, g_foundToken, g_foundP, g_foundQ, g_moved, g_movedSizes, g_synchronizing, g_input, g_inputLong, g_stack, g_stackParents, g_top, g_at, g_steps, g_traced, g_traces, .int c_nodes, g_made, g_nodeSymbols, .ref h_nodeParents, g_errors, g_errorAts, g_errorKinds, g_errorTops, g_weights, g_bests, g_bestLongs, g_partly, g_partlyLongs, g_repaired, g_repairedLong])), (h_nodeParents, .inl (tc.1, 300, .inl c_nodeParents))]) (fun v15 v16 => [(0, .ref h_), (1, .int p1), (2, .int v4), (3, .int v5), (4, .int v15), (5, .int v16)]) (fun rc17 hrc17 v15 v16 => wX12_nodeHeight_35 C h_ h_nodeParents g_rules g_lefts g_sizes g_rights g_edits g_pastRules g_pastLefts g_pastSizes g_pastRights g_levels g_codes g_details g_asked g_isWorked g_empties g_firsts g_follows g_isKept g_keptEmpties g_keptFirsts g_keptFollows g_strings g_longs g_trial g_trialLong g_foundName g_foundToken g_foundP g_foundQ g_moved g_movedSizes g_synchronizing g_input g_inputLong g_stack g_stackParents g_top g_at g_steps g_traced g_traces g_made g_nodeSymbols g_errors g_errorAts g_errorKinds g_errorTops g_weights g_bests g_bestLongs g_partly g_partlyLongs g_repaired g_repairedLong p1 c_nodes c_nodeParents v4 v5 k14 hk14 rc17 hrc17 v15 v16) N _ _)

set_option maxHeartbeats 4000000 in
set_option maxRecDepth 100000 in
theorem kX12_nodeHeight (l : Launch) (D : va_G) (tc : jTC) (N : Nat) (h_ h_nodeParents : Nat) (g_rules g_lefts g_sizes g_rights g_edits g_pastRules g_pastLefts g_pastSizes g_pastRights g_levels g_codes g_details g_asked g_isWorked g_empties g_firsts g_follows g_isKept g_keptEmpties g_keptFirsts g_keptFollows g_strings g_longs g_trial g_trialLong g_foundName g_foundToken g_foundP g_foundQ g_moved g_movedSizes g_synchronizing g_input g_inputLong g_stack g_stackParents g_top g_at g_steps g_traced g_traces g_made g_nodeSymbols g_errors g_errorAts g_errorKinds g_errorTops g_weights g_bests g_bestLongs g_partly g_partlyLongs g_repaired g_repairedLong : Value) (c_nodes : Int32) (c_nodeParents : (Nat → Int32)) (p1 : Int32) : ctI0 l D tc yX12_nodeHeight (Cond.code yX12_nodeHeight cX12_nodeHeight 6 (some .int) :: jtb) ({ frames := 1, cells := 0, slots := 0, locals := 22 } : Room) [.ref h_, .int p1] [(h_, .inr (12, [g_rules, g_lefts, g_sizes, g_rights, g_edits, g_pastRules, g_pastLefts, g_pastSizes, g_pastRights, g_levels, g_codes, g_details, g_asked, g_isWorked, g_empties, g_firsts, g_follows, g_isKept, g_keptEmpties, g_keptFirsts, g_keptFollows, g_strings, g_longs, g_trial, g_trialLong, g_foundName, g_foundToken, g_foundP, g_foundQ, g_moved, g_movedSizes, g_synchronizing, g_input, g_inputLong, g_stack, g_stackParents, g_top, g_at, g_steps, g_traced, g_traces, .int c_nodes, g_made, g_nodeSymbols, .ref h_nodeParents, g_errors, g_errorAts, g_errorKinds, g_errorTops, g_weights, g_bests, g_bestLongs, g_partly, g_partlyLongs, g_repaired, g_repairedLong])), (h_nodeParents, .inl (tc.1, 300, .inl c_nodeParents))] (fX12_nodeHeight N c_nodes c_nodeParents p1) := by
  refine ctI0_of (lv0 := [(0, .ref h_), (1, .int p1)]) (by decide +kernel) (Nat.le_of_ble_eq_true rfl) rfl (fun X C => ?_)
  unfold fX12_nodeHeight
  refine j_iload C d12_nodeHeight_0 1 rfl ?_
  refine j_const C d12_nodeHeight_1 ?_
  refine j_aload C d12_nodeHeight_2 0 rfl ?_
  refine j_get C d12_nodeHeight_3 fl12_302 0 rfl rfl ?_
  refine j_const C d12_nodeHeight_6 ?_
  refine j_isub C d12_nodeHeight_7 ?_
  refine j_callSI0 (As := [.int p1, .int 0, .int (c_nodes - (1 : Int32))]) C d12_nodeHeight_8 ms12_119 (kX12_in _ _ tc p1 0 (c_nodes - (1 : Int32))) ⟨rfl, rfl, Nat.le_of_ble_eq_true rfl, Nat.le_of_ble_eq_true rfl⟩ rfl [] rfl rfl rfl (Nat.le_of_ble_eq_true rfl) (fun x1 => ?_)
  refine j_if_ne C d12_nodeHeight_11 ?_ ?_
  · refine j_const C d12_nodeHeight_17 ?_
    refine j_istore C d12_nodeHeight_18 (by decide) (lv' := [(2, .int 0), (0, .ref h_), (1, .int p1)]) rfl ?_
    refine j_iload C d12_nodeHeight_19 2 rfl ?_
    refine j_istore C d12_nodeHeight_20 (by decide) (lv' := [(3, .int p1), (2, .int 0), (0, .ref h_), (1, .int p1)]) rfl ?_
    refine j_join 81 (fun v2 => [(h_, .inr (12, [g_rules, g_lefts, g_sizes, g_rights, g_edits, g_pastRules, g_pastLefts, g_pastSizes, g_pastRights, g_levels, g_codes, g_details, g_asked, g_isWorked, g_empties, g_firsts, g_follows, g_isKept, g_keptEmpties, g_keptFirsts, g_keptFollows, g_strings, g_longs, g_trial, g_trialLong, g_foundName, g_foundToken, g_foundP, g_foundQ, g_moved, g_movedSizes, g_synchronizing, g_input, g_inputLong, g_stack, g_stackParents, g_top, g_at, g_steps, g_traced, g_traces, .int c_nodes, g_made, g_nodeSymbols, .ref h_nodeParents, g_errors, g_errorAts, g_errorKinds, g_errorTops, g_weights, g_bests, g_bestLongs, g_partly, g_partlyLongs, g_repaired, g_repairedLong])), (h_nodeParents, .inl (tc.1, 300, .inl c_nodeParents))]) (fun v2 => [(2, .int v2)]) (fun v2 => []) (fun v2 => ?_) (fun k3 hk3 => ?_)
    · refine j_iload C d12_nodeHeight_81 0 rfl ?_
      exact j_iret0 C d12_nodeHeight_82
    · exact j_sub [2, 3, 1, 0] rfl (j_loop2 (fun v4 v5 => [(h_, .inr (12, [g_rules, g_lefts, g_sizes, g_rights, g_edits, g_pastRules, g_pastLefts, g_pastSizes, g_pastRights, g_levels, g_codes, g_details, g_asked, g_isWorked, g_empties, g_firsts, g_follows, g_isKept, g_keptEmpties, g_keptFirsts, g_keptFollows, g_strings, g_longs, g_trial, g_trialLong, g_foundName, g_foundToken, g_foundP, g_foundQ, g_moved, g_movedSizes, g_synchronizing, g_input, g_inputLong, g_stack, g_stackParents, g_top, g_at, g_steps, g_traced, g_traces, .int c_nodes, g_made, g_nodeSymbols, .ref h_nodeParents, g_errors, g_errorAts, g_errorKinds, g_errorTops, g_weights, g_bests, g_bestLongs, g_partly, g_partlyLongs, g_repaired, g_repairedLong])), (h_nodeParents, .inl (tc.1, 300, .inl c_nodeParents))]) (fun v4 v5 => [(0, .ref h_), (1, .int p1), (2, .int v4), (3, .int v5)]) (fun rc6 hrc6 v4 v5 => wX12_nodeHeight_21 C N h_ h_nodeParents g_rules g_lefts g_sizes g_rights g_edits g_pastRules g_pastLefts g_pastSizes g_pastRights g_levels g_codes g_details g_asked g_isWorked g_empties g_firsts g_follows g_isKept g_keptEmpties g_keptFirsts g_keptFollows g_strings g_longs g_trial g_trialLong g_foundName g_foundToken g_foundP g_foundQ g_moved g_movedSizes g_synchronizing g_input g_inputLong g_stack g_stackParents g_top g_at g_steps g_traced g_traces g_made g_nodeSymbols g_errors g_errorAts g_errorKinds g_errorTops g_weights g_bests g_bestLongs g_partly g_partlyLongs g_repaired g_repairedLong p1 c_nodes c_nodeParents k3 hk3 rc6 hrc6 v4 v5) N _ _)
  · refine j_const C d12_nodeHeight_14 ?_
    exact j_iret0 C d12_nodeHeight_16

