theorem d12_reaches_0 : jdk cX12_reaches 0 9 2 := Or.inr (Or.inl ⟨9, by decide +kernel⟩)
theorem d12_reaches_2 : jdi cX12_reaches 2 1 3 := Or.inl ⟨1, by decide +kernel⟩
theorem d12_reaches_3 : jd cX12_reaches 3 (.imul) 1 4 := by decide +kernel
theorem d12_reaches_4 : jdi cX12_reaches 4 2 5 := Or.inl ⟨2, by decide +kernel⟩
theorem d12_reaches_5 : jd cX12_reaches 5 (.iadd) 1 6 := by decide +kernel
theorem d12_reaches_6 : jds cX12_reaches 6 3 7 := Or.inl ⟨3, by decide +kernel⟩
theorem d12_reaches_7 : jda cX12_reaches 7 0 8 := Or.inl ⟨0, by decide +kernel⟩
theorem d12_reaches_8 : jd cX12_reaches 8 (.getfield 212) 3 11 := by decide +kernel
theorem d12_reaches_11 : jdb cX12_reaches 11 (.ifCond .lt 24) 24 35 14 := by decide +kernel
theorem d12_reaches_14 : jda cX12_reaches 14 0 15 := Or.inl ⟨0, by decide +kernel⟩
theorem d12_reaches_15 : jda cX12_reaches 15 0 16 := Or.inl ⟨0, by decide +kernel⟩
theorem d12_reaches_16 : jd cX12_reaches 16 (.getfield 106) 3 19 := by decide +kernel
theorem d12_reaches_19 : jdk cX12_reaches 19 40 21 := Or.inr (Or.inl ⟨40, by decide +kernel⟩)
theorem d12_reaches_21 : jdi cX12_reaches 21 3 22 := Or.inl ⟨3, by decide +kernel⟩
theorem d12_reaches_22 : jd cX12_reaches 22 (.imul) 1 23 := by decide +kernel
theorem d12_reaches_23 : jda cX12_reaches 23 0 24 := Or.inl ⟨0, by decide +kernel⟩
theorem d12_reaches_24 : jd cX12_reaches 24 (.getfield 109) 3 27 := by decide +kernel
theorem d12_reaches_27 : jdi cX12_reaches 27 3 28 := Or.inl ⟨3, by decide +kernel⟩
theorem d12_reaches_28 : jd cX12_reaches 28 (.iaload) 1 29 := by decide +kernel
theorem d12_reaches_29 : jd cX12_reaches 29 (.invokevirtual 342) 3 32 := by decide +kernel
theorem d12_reaches_32 : jdb cX12_reaches 32 (.ifCond .ne 4) 4 36 35 := by decide +kernel
theorem d12_reaches_35 : decode cX12_reaches 35 = .ok (.return_, 1) := by decide +kernel
theorem d12_reaches_36 : jda cX12_reaches 36 0 37 := Or.inl ⟨0, by decide +kernel⟩
theorem d12_reaches_37 : jd cX12_reaches 37 (.getfield 109) 3 40 := by decide +kernel
theorem d12_reaches_40 : jdi cX12_reaches 40 3 41 := Or.inl ⟨3, by decide +kernel⟩
theorem d12_reaches_41 : jda cX12_reaches 41 0 42 := Or.inl ⟨0, by decide +kernel⟩
theorem d12_reaches_42 : jd cX12_reaches 42 (.getfield 212) 3 45 := by decide +kernel
theorem d12_reaches_45 : jd cX12_reaches 45 (.iastore) 1 46 := by decide +kernel
theorem d12_reaches_46 : jdk cX12_reaches 46 0 47 := Or.inl ⟨0, by decide +kernel⟩
theorem d12_reaches_47 : jds cX12_reaches 47 4 49 := Or.inr (by decide +kernel)
theorem d12_reaches_49 : jdi cX12_reaches 49 4 51 := Or.inr (by decide +kernel)
theorem d12_reaches_51 : jda cX12_reaches 51 0 52 := Or.inl ⟨0, by decide +kernel⟩
theorem d12_reaches_52 : jd cX12_reaches 52 (.getfield 212) 3 55 := by decide +kernel
theorem d12_reaches_55 : jdb cX12_reaches 55 (.if_icmp .ge 28) 28 83 58 := by decide +kernel
theorem d12_reaches_58 : jda cX12_reaches 58 0 59 := Or.inl ⟨0, by decide +kernel⟩
theorem d12_reaches_59 : jd cX12_reaches 59 (.getfield 106) 3 62 := by decide +kernel
theorem d12_reaches_62 : jdk cX12_reaches 62 40 64 := Or.inr (Or.inl ⟨40, by decide +kernel⟩)
theorem d12_reaches_64 : jdi cX12_reaches 64 3 65 := Or.inl ⟨3, by decide +kernel⟩
theorem d12_reaches_65 : jd cX12_reaches 65 (.imul) 1 66 := by decide +kernel
theorem d12_reaches_66 : jdi cX12_reaches 66 4 68 := Or.inr (by decide +kernel)
theorem d12_reaches_68 : jd cX12_reaches 68 (.iadd) 1 69 := by decide +kernel
theorem d12_reaches_69 : jda cX12_reaches 69 0 70 := Or.inl ⟨0, by decide +kernel⟩
theorem d12_reaches_70 : jd cX12_reaches 70 (.getfield 58) 3 73 := by decide +kernel
theorem d12_reaches_73 : jdi cX12_reaches 73 4 75 := Or.inr (by decide +kernel)
theorem d12_reaches_75 : jd cX12_reaches 75 (.iaload) 1 76 := by decide +kernel
theorem d12_reaches_76 : jd cX12_reaches 76 (.iastore) 1 77 := by decide +kernel
theorem d12_reaches_77 : jd cX12_reaches 77 (.iinc 4 1) 3 80 := by decide +kernel
theorem d12_reaches_80 : jdb cX12_reaches 80 (.goto (-31)) (-31) 49 83 := by decide +kernel
theorem d12_reaches_83 : decode cX12_reaches 83 = .ok (.return_, 1) := by decide +kernel
set_option maxHeartbeats 4000000 in
set_option maxRecDepth 100000 in
theorem wX12_reaches_49 {X : jC} {tc : jTC} (C : jx X cX12_reaches 5 RX12 none tc ({ frames := 2, cells := 0, slots := 0, locals := 51 } : Room)) (h_ h_trial h_weights h_partly h_partlyLongs : Nat) (g_rules g_lefts g_sizes g_rights g_edits g_pastRules g_pastLefts g_pastSizes g_pastRights g_levels g_codes g_details g_asked g_isWorked g_empties g_firsts g_follows g_isKept g_keptEmpties g_keptFirsts g_keptFollows g_strings g_longs g_foundName g_foundToken g_foundP g_foundQ g_moved g_movedSizes g_synchronizing g_input g_inputLong g_stack g_stackParents g_top g_at g_steps g_traced g_traces g_nodes g_made g_nodeSymbols g_nodeParents g_errors g_errorAts g_errorKinds g_errorTops g_bests g_bestLongs g_repaired g_repairedLong : Value) (c_trial : (Nat → Int32)) (c_trialLong : Int32) (c_weights : (Nat → Int32)) (x1 : Int32) (f6 : (Nat → Int32)) (k8 : ((Nat → Int32) → Option ((Nat → Int32) × (Nat → Int32)))) (hk8 : ∀ w14 : (Nat → Int32), jo X 5 (0, 0) (jQV X (fun (u : (Nat → Int32) × (Nat → Int32)) => [(h_, .inr (12, [g_rules, g_lefts, g_sizes, g_rights, g_edits, g_pastRules, g_pastLefts, g_pastSizes, g_pastRights, g_levels, g_codes, g_details, g_asked, g_isWorked, g_empties, g_firsts, g_follows, g_isKept, g_keptEmpties, g_keptFirsts, g_keptFollows, g_strings, g_longs, .ref h_trial, .int c_trialLong, g_foundName, g_foundToken, g_foundP, g_foundQ, g_moved, g_movedSizes, g_synchronizing, g_input, g_inputLong, g_stack, g_stackParents, g_top, g_at, g_steps, g_traced, g_traces, g_nodes, g_made, g_nodeSymbols, g_nodeParents, g_errors, g_errorAts, g_errorKinds, g_errorTops, .ref h_weights, g_bests, g_bestLongs, .ref h_partly, .ref h_partlyLongs, g_repaired, g_repairedLong])), (h_trial, .inl (tc.1, 40, .inl c_trial)), (h_weights, .inl (tc.1, 8, .inl c_weights)), (h_partly, .inl (tc.1, 2160, .inl u.1)), (h_partlyLongs, .inl (tc.1, 54, .inl u.2))])) (k8 w14) [(h_, .inr (12, [g_rules, g_lefts, g_sizes, g_rights, g_edits, g_pastRules, g_pastLefts, g_pastSizes, g_pastRights, g_levels, g_codes, g_details, g_asked, g_isWorked, g_empties, g_firsts, g_follows, g_isKept, g_keptEmpties, g_keptFirsts, g_keptFollows, g_strings, g_longs, .ref h_trial, .int c_trialLong, g_foundName, g_foundToken, g_foundP, g_foundQ, g_moved, g_movedSizes, g_synchronizing, g_input, g_inputLong, g_stack, g_stackParents, g_top, g_at, g_steps, g_traced, g_traces, g_nodes, g_made, g_nodeSymbols, g_nodeParents, g_errors, g_errorAts, g_errorKinds, g_errorTops, .ref h_weights, g_bests, g_bestLongs, .ref h_partly, .ref h_partlyLongs, g_repaired, g_repairedLong])), (h_trial, .inl (tc.1, 40, .inl c_trial)), (h_weights, .inl (tc.1, 8, .inl c_weights)), (h_partly, .inl (tc.1, 2160, .inl w14)), (h_partlyLongs, .inl (tc.1, 54, .inl f6))] 83 [] []) (rc10 : Int32 × (Nat → Int32) → Option ((Nat → Int32) × (Nat → Int32))) (hrc10 : ∀ v9 : Int32 × (Nat → Int32), jo X 5 (0, 0) (jQV X (fun (u : (Nat → Int32) × (Nat → Int32)) => [(h_, .inr (12, [g_rules, g_lefts, g_sizes, g_rights, g_edits, g_pastRules, g_pastLefts, g_pastSizes, g_pastRights, g_levels, g_codes, g_details, g_asked, g_isWorked, g_empties, g_firsts, g_follows, g_isKept, g_keptEmpties, g_keptFirsts, g_keptFollows, g_strings, g_longs, .ref h_trial, .int c_trialLong, g_foundName, g_foundToken, g_foundP, g_foundQ, g_moved, g_movedSizes, g_synchronizing, g_input, g_inputLong, g_stack, g_stackParents, g_top, g_at, g_steps, g_traced, g_traces, g_nodes, g_made, g_nodeSymbols, g_nodeParents, g_errors, g_errorAts, g_errorKinds, g_errorTops, .ref h_weights, g_bests, g_bestLongs, .ref h_partly, .ref h_partlyLongs, g_repaired, g_repairedLong])), (h_trial, .inl (tc.1, 40, .inl c_trial)), (h_weights, .inl (tc.1, 8, .inl c_weights)), (h_partly, .inl (tc.1, 2160, .inl u.1)), (h_partlyLongs, .inl (tc.1, 54, .inl u.2))])) (rc10 v9) [(h_, .inr (12, [g_rules, g_lefts, g_sizes, g_rights, g_edits, g_pastRules, g_pastLefts, g_pastSizes, g_pastRights, g_levels, g_codes, g_details, g_asked, g_isWorked, g_empties, g_firsts, g_follows, g_isKept, g_keptEmpties, g_keptFirsts, g_keptFollows, g_strings, g_longs, .ref h_trial, .int c_trialLong, g_foundName, g_foundToken, g_foundP, g_foundQ, g_moved, g_movedSizes, g_synchronizing, g_input, g_inputLong, g_stack, g_stackParents, g_top, g_at, g_steps, g_traced, g_traces, g_nodes, g_made, g_nodeSymbols, g_nodeParents, g_errors, g_errorAts, g_errorKinds, g_errorTops, .ref h_weights, g_bests, g_bestLongs, .ref h_partly, .ref h_partlyLongs, g_repaired, g_repairedLong])), (h_trial, .inl (tc.1, 40, .inl c_trial)), (h_weights, .inl (tc.1, 8, .inl c_weights)), (h_partly, .inl (tc.1, 2160, .inl v9.2)), (h_partlyLongs, .inl (tc.1, 54, .inl f6))] 49 [(0, .ref h_), (3, .int x1), (4, .int v9.1)] []) (v9 : Int32 × (Nat → Int32)) : jo X 5 (0, 0) (jQV X (fun (u : (Nat → Int32) × (Nat → Int32)) => [(h_, .inr (12, [g_rules, g_lefts, g_sizes, g_rights, g_edits, g_pastRules, g_pastLefts, g_pastSizes, g_pastRights, g_levels, g_codes, g_details, g_asked, g_isWorked, g_empties, g_firsts, g_follows, g_isKept, g_keptEmpties, g_keptFirsts, g_keptFollows, g_strings, g_longs, .ref h_trial, .int c_trialLong, g_foundName, g_foundToken, g_foundP, g_foundQ, g_moved, g_movedSizes, g_synchronizing, g_input, g_inputLong, g_stack, g_stackParents, g_top, g_at, g_steps, g_traced, g_traces, g_nodes, g_made, g_nodeSymbols, g_nodeParents, g_errors, g_errorAts, g_errorKinds, g_errorTops, .ref h_weights, g_bests, g_bestLongs, .ref h_partly, .ref h_partlyLongs, g_repaired, g_repairedLong])), (h_trial, .inl (tc.1, 40, .inl c_trial)), (h_weights, .inl (tc.1, 8, .inl c_weights)), (h_partly, .inl (tc.1, 2160, .inl u.1)), (h_partlyLongs, .inl (tc.1, 54, .inl u.2))])) (bX12_reaches_49 c_trial c_trialLong x1 k8 rc10 v9) [(h_, .inr (12, [g_rules, g_lefts, g_sizes, g_rights, g_edits, g_pastRules, g_pastLefts, g_pastSizes, g_pastRights, g_levels, g_codes, g_details, g_asked, g_isWorked, g_empties, g_firsts, g_follows, g_isKept, g_keptEmpties, g_keptFirsts, g_keptFollows, g_strings, g_longs, .ref h_trial, .int c_trialLong, g_foundName, g_foundToken, g_foundP, g_foundQ, g_moved, g_movedSizes, g_synchronizing, g_input, g_inputLong, g_stack, g_stackParents, g_top, g_at, g_steps, g_traced, g_traces, g_nodes, g_made, g_nodeSymbols, g_nodeParents, g_errors, g_errorAts, g_errorKinds, g_errorTops, .ref h_weights, g_bests, g_bestLongs, .ref h_partly, .ref h_partlyLongs, g_repaired, g_repairedLong])), (h_trial, .inl (tc.1, 40, .inl c_trial)), (h_weights, .inl (tc.1, 8, .inl c_weights)), (h_partly, .inl (tc.1, 2160, .inl v9.2)), (h_partlyLongs, .inl (tc.1, 54, .inl f6))] 49 [(0, .ref h_), (3, .int x1), (4, .int v9.1)] [] := by
  unfold bX12_reaches_49
  refine j_iload C d12_reaches_49 2 rfl ?_
  refine j_aload C d12_reaches_51 0 rfl ?_
  refine j_get C d12_reaches_52 fl12_212 0 rfl rfl ?_
  refine j_icmp_ge C d12_reaches_55 ?_ ?_
  · exact j_sub [] rfl (hk8 _)
  · refine j_aload C d12_reaches_58 0 rfl ?_
    refine j_get C d12_reaches_59 fl12_106 0 rfl rfl ?_
    refine j_const C d12_reaches_62 ?_
    refine j_iload C d12_reaches_64 1 rfl ?_
    refine j_imul C d12_reaches_65 ?_
    refine j_iload C d12_reaches_66 2 rfl ?_
    refine j_iadd C d12_reaches_68 ?_
    refine j_aload C d12_reaches_69 0 rfl ?_
    refine j_get C d12_reaches_70 fl12_58 0 rfl rfl ?_
    refine j_iload C d12_reaches_73 2 rfl ?_
    refine j_iald C d12_reaches_75 1 rfl (fun x11 => ?_)
    refine j_iast C (fun f12 => [(h_, .inr (12, [g_rules, g_lefts, g_sizes, g_rights, g_edits, g_pastRules, g_pastLefts, g_pastSizes, g_pastRights, g_levels, g_codes, g_details, g_asked, g_isWorked, g_empties, g_firsts, g_follows, g_isKept, g_keptEmpties, g_keptFirsts, g_keptFollows, g_strings, g_longs, .ref h_trial, .int c_trialLong, g_foundName, g_foundToken, g_foundP, g_foundQ, g_moved, g_movedSizes, g_synchronizing, g_input, g_inputLong, g_stack, g_stackParents, g_top, g_at, g_steps, g_traced, g_traces, g_nodes, g_made, g_nodeSymbols, g_nodeParents, g_errors, g_errorAts, g_errorKinds, g_errorTops, .ref h_weights, g_bests, g_bestLongs, .ref h_partly, .ref h_partlyLongs, g_repaired, g_repairedLong])), (h_trial, .inl (tc.1, 40, .inl c_trial)), (h_weights, .inl (tc.1, 8, .inl c_weights)), (h_partly, .inl (tc.1, 2160, .inl f12)), (h_partlyLongs, .inl (tc.1, 54, .inl f6))]) d12_reaches_76 3 rfl (fun _ => rfl) (fun f12 => ?_)
    refine j_iincN C (fun x13 => [(4, .int x13), (0, .ref h_), (3, .int x1)]) d12_reaches_77 2 rfl (by decide +kernel) (by decide) (fun _ => rfl) (fun x13 => ?_)
    refine j_goto C d12_reaches_80 ?_
    exact j_sub [1, 2, 0] rfl (hrc10 _)

set_option maxHeartbeats 4000000 in
set_option maxRecDepth 100000 in
theorem kX12_reaches (l : Launch) (D : va_G) (tc : jTC) (N : Nat) (h_ h_trial h_weights h_partly h_partlyLongs : Nat) (g_rules g_lefts g_sizes g_rights g_edits g_pastRules g_pastLefts g_pastSizes g_pastRights g_levels g_codes g_details g_asked g_isWorked g_empties g_firsts g_follows g_isKept g_keptEmpties g_keptFirsts g_keptFollows g_strings g_longs g_foundName g_foundToken g_foundP g_foundQ g_moved g_movedSizes g_synchronizing g_input g_inputLong g_stack g_stackParents g_top g_at g_steps g_traced g_traces g_nodes g_made g_nodeSymbols g_nodeParents g_errors g_errorAts g_errorKinds g_errorTops g_bests g_bestLongs g_repaired g_repairedLong : Value) (c_trial : (Nat → Int32)) (c_trialLong : Int32) (c_weights : (Nat → Int32)) (c_partly : (Nat → Int32)) (c_partlyLongs : (Nat → Int32)) (p1 : Int32) (p2 : Int32) : ctV l D tc yX12_reaches (Cond.code yX12_reaches cX12_reaches 5 none :: jtb) ({ frames := 2, cells := 0, slots := 0, locals := 51 } : Room) [.ref h_, .int p1, .int p2] [(h_, .inr (12, [g_rules, g_lefts, g_sizes, g_rights, g_edits, g_pastRules, g_pastLefts, g_pastSizes, g_pastRights, g_levels, g_codes, g_details, g_asked, g_isWorked, g_empties, g_firsts, g_follows, g_isKept, g_keptEmpties, g_keptFirsts, g_keptFollows, g_strings, g_longs, .ref h_trial, .int c_trialLong, g_foundName, g_foundToken, g_foundP, g_foundQ, g_moved, g_movedSizes, g_synchronizing, g_input, g_inputLong, g_stack, g_stackParents, g_top, g_at, g_steps, g_traced, g_traces, g_nodes, g_made, g_nodeSymbols, g_nodeParents, g_errors, g_errorAts, g_errorKinds, g_errorTops, .ref h_weights, g_bests, g_bestLongs, .ref h_partly, .ref h_partlyLongs, g_repaired, g_repairedLong])), (h_trial, .inl (tc.1, 40, .inl c_trial)), (h_weights, .inl (tc.1, 8, .inl c_weights)), (h_partly, .inl (tc.1, 2160, .inl c_partly)), (h_partlyLongs, .inl (tc.1, 54, .inl c_partlyLongs))] (fX12_reaches N c_trial c_trialLong c_weights c_partly c_partlyLongs p1 p2) (fun (u : (Nat → Int32) × (Nat → Int32)) => [(h_, .inr (12, [g_rules, g_lefts, g_sizes, g_rights, g_edits, g_pastRules, g_pastLefts, g_pastSizes, g_pastRights, g_levels, g_codes, g_details, g_asked, g_isWorked, g_empties, g_firsts, g_follows, g_isKept, g_keptEmpties, g_keptFirsts, g_keptFollows, g_strings, g_longs, .ref h_trial, .int c_trialLong, g_foundName, g_foundToken, g_foundP, g_foundQ, g_moved, g_movedSizes, g_synchronizing, g_input, g_inputLong, g_stack, g_stackParents, g_top, g_at, g_steps, g_traced, g_traces, g_nodes, g_made, g_nodeSymbols, g_nodeParents, g_errors, g_errorAts, g_errorKinds, g_errorTops, .ref h_weights, g_bests, g_bestLongs, .ref h_partly, .ref h_partlyLongs, g_repaired, g_repairedLong])), (h_trial, .inl (tc.1, 40, .inl c_trial)), (h_weights, .inl (tc.1, 8, .inl c_weights)), (h_partly, .inl (tc.1, 2160, .inl u.1)), (h_partlyLongs, .inl (tc.1, 54, .inl u.2))]) := by
  refine ctV_of (lv0 := [(0, .ref h_), (1, .int p1), (2, .int p2)]) (by decide +kernel) (Nat.le_of_ble_eq_true rfl) rfl (fun X C => ?_)
  unfold fX12_reaches
  refine j_const C d12_reaches_0 ?_
  refine j_iload C d12_reaches_2 1 rfl ?_
  refine j_imul C d12_reaches_3 ?_
  refine j_iload C d12_reaches_4 2 rfl ?_
  refine j_iadd C d12_reaches_5 ?_
  refine j_leti (fun x1 => ?_)
  refine j_istore C d12_reaches_6 (by decide) (lv' := [(3, .int x1), (0, .ref h_), (1, .int p1), (2, .int p2)]) rfl ?_
  refine j_aload C d12_reaches_7 1 rfl ?_
  refine j_get C d12_reaches_8 fl12_212 0 rfl rfl ?_
  refine j_join 35 (fun v2 => [(h_, .inr (12, [g_rules, g_lefts, g_sizes, g_rights, g_edits, g_pastRules, g_pastLefts, g_pastSizes, g_pastRights, g_levels, g_codes, g_details, g_asked, g_isWorked, g_empties, g_firsts, g_follows, g_isKept, g_keptEmpties, g_keptFirsts, g_keptFollows, g_strings, g_longs, .ref h_trial, .int c_trialLong, g_foundName, g_foundToken, g_foundP, g_foundQ, g_moved, g_movedSizes, g_synchronizing, g_input, g_inputLong, g_stack, g_stackParents, g_top, g_at, g_steps, g_traced, g_traces, g_nodes, g_made, g_nodeSymbols, g_nodeParents, g_errors, g_errorAts, g_errorKinds, g_errorTops, .ref h_weights, g_bests, g_bestLongs, .ref h_partly, .ref h_partlyLongs, g_repaired, g_repairedLong])), (h_trial, .inl (tc.1, 40, .inl c_trial)), (h_weights, .inl (tc.1, 8, .inl c_weights)), (h_partly, .inl (tc.1, 2160, .inl c_partly)), (h_partlyLongs, .inl (tc.1, 54, .inl c_partlyLongs))]) (fun v2 => []) (fun v2 => []) (fun v2 => ?_) (fun k3 hk3 => ?_)
  · exact j_vret C d12_reaches_35 rfl
  · refine j_if_lt C d12_reaches_11 ?_ ?_
    · exact j_sub [] rfl (hk3 _)
    · refine j_aload C d12_reaches_14 1 rfl ?_
      refine j_aload C d12_reaches_15 1 rfl ?_
      refine j_get C d12_reaches_16 fl12_106 0 rfl rfl ?_
      refine j_const C d12_reaches_19 ?_
      refine j_iload C d12_reaches_21 0 rfl ?_
      refine j_imul C d12_reaches_22 ?_
      refine j_aload C d12_reaches_23 1 rfl ?_
      refine j_get C d12_reaches_24 fl12_109 0 rfl rfl ?_
      refine j_iload C d12_reaches_27 0 rfl ?_
      refine j_iald C d12_reaches_28 4 rfl (fun x4 => ?_)
      refine j_callVI0 (As := [.ref h_partly, .int ((40 : Int32) * x1), .int x4]) C d12_reaches_29 mv12_342 (kX12_isLess_partly _ _ tc N h_ h_trial h_weights h_partly g_rules g_lefts g_sizes g_rights g_edits g_pastRules g_pastLefts g_pastSizes g_pastRights g_levels g_codes g_details g_asked g_isWorked g_empties g_firsts g_follows g_isKept g_keptEmpties g_keptFirsts g_keptFollows g_strings g_longs g_foundName g_foundToken g_foundP g_foundQ g_moved g_movedSizes g_synchronizing g_input g_inputLong g_stack g_stackParents g_top g_at g_steps g_traced g_traces g_nodes g_made g_nodeSymbols g_nodeParents g_errors g_errorAts g_errorKinds g_errorTops g_bests g_bestLongs (.ref h_partlyLongs) g_repaired g_repairedLong c_trial c_trialLong c_weights c_partly ((40 : Int32) * x1) x4) ⟨rfl, rfl, Nat.le_of_ble_eq_true rfl, Nat.le_of_ble_eq_true rfl⟩ rfl 0 rfl [0, 1, 2, 3] rfl rfl rfl (Nat.le_of_ble_eq_true rfl) (fun x5 => ?_)
      refine j_if_ne C d12_reaches_32 ?_ ?_
      · refine j_aload C d12_reaches_36 1 rfl ?_
        refine j_get C d12_reaches_37 fl12_109 0 rfl rfl ?_
        refine j_iload C d12_reaches_40 0 rfl ?_
        refine j_aload C d12_reaches_41 1 rfl ?_
        refine j_get C d12_reaches_42 fl12_212 0 rfl rfl ?_
        refine j_iast C (fun f6 => [(h_, .inr (12, [g_rules, g_lefts, g_sizes, g_rights, g_edits, g_pastRules, g_pastLefts, g_pastSizes, g_pastRights, g_levels, g_codes, g_details, g_asked, g_isWorked, g_empties, g_firsts, g_follows, g_isKept, g_keptEmpties, g_keptFirsts, g_keptFollows, g_strings, g_longs, .ref h_trial, .int c_trialLong, g_foundName, g_foundToken, g_foundP, g_foundQ, g_moved, g_movedSizes, g_synchronizing, g_input, g_inputLong, g_stack, g_stackParents, g_top, g_at, g_steps, g_traced, g_traces, g_nodes, g_made, g_nodeSymbols, g_nodeParents, g_errors, g_errorAts, g_errorKinds, g_errorTops, .ref h_weights, g_bests, g_bestLongs, .ref h_partly, .ref h_partlyLongs, g_repaired, g_repairedLong])), (h_trial, .inl (tc.1, 40, .inl c_trial)), (h_weights, .inl (tc.1, 8, .inl c_weights)), (h_partly, .inl (tc.1, 2160, .inl c_partly)), (h_partlyLongs, .inl (tc.1, 54, .inl f6))]) d12_reaches_45 4 rfl (fun _ => rfl) (fun f6 => ?_)
        refine j_const C d12_reaches_46 ?_
        refine j_istore C d12_reaches_47 (by decide) (lv' := [(4, .int 0), (3, .int x1), (0, .ref h_), (1, .int p1), (2, .int p2)]) rfl ?_
        refine j_join 83 (fun v7 => [(h_, .inr (12, [g_rules, g_lefts, g_sizes, g_rights, g_edits, g_pastRules, g_pastLefts, g_pastSizes, g_pastRights, g_levels, g_codes, g_details, g_asked, g_isWorked, g_empties, g_firsts, g_follows, g_isKept, g_keptEmpties, g_keptFirsts, g_keptFollows, g_strings, g_longs, .ref h_trial, .int c_trialLong, g_foundName, g_foundToken, g_foundP, g_foundQ, g_moved, g_movedSizes, g_synchronizing, g_input, g_inputLong, g_stack, g_stackParents, g_top, g_at, g_steps, g_traced, g_traces, g_nodes, g_made, g_nodeSymbols, g_nodeParents, g_errors, g_errorAts, g_errorKinds, g_errorTops, .ref h_weights, g_bests, g_bestLongs, .ref h_partly, .ref h_partlyLongs, g_repaired, g_repairedLong])), (h_trial, .inl (tc.1, 40, .inl c_trial)), (h_weights, .inl (tc.1, 8, .inl c_weights)), (h_partly, .inl (tc.1, 2160, .inl v7)), (h_partlyLongs, .inl (tc.1, 54, .inl f6))]) (fun v7 => []) (fun v7 => []) (fun v7 => ?_) (fun k8 hk8 => ?_)
        · exact j_vret C d12_reaches_83 rfl
        · exact j_sub [2, 1, 0] rfl (j_loop (fun v9 => [(h_, .inr (12, [g_rules, g_lefts, g_sizes, g_rights, g_edits, g_pastRules, g_pastLefts, g_pastSizes, g_pastRights, g_levels, g_codes, g_details, g_asked, g_isWorked, g_empties, g_firsts, g_follows, g_isKept, g_keptEmpties, g_keptFirsts, g_keptFollows, g_strings, g_longs, .ref h_trial, .int c_trialLong, g_foundName, g_foundToken, g_foundP, g_foundQ, g_moved, g_movedSizes, g_synchronizing, g_input, g_inputLong, g_stack, g_stackParents, g_top, g_at, g_steps, g_traced, g_traces, g_nodes, g_made, g_nodeSymbols, g_nodeParents, g_errors, g_errorAts, g_errorKinds, g_errorTops, .ref h_weights, g_bests, g_bestLongs, .ref h_partly, .ref h_partlyLongs, g_repaired, g_repairedLong])), (h_trial, .inl (tc.1, 40, .inl c_trial)), (h_weights, .inl (tc.1, 8, .inl c_weights)), (h_partly, .inl (tc.1, 2160, .inl v9.2)), (h_partlyLongs, .inl (tc.1, 54, .inl f6))]) (fun v9 => [(0, .ref h_), (3, .int x1), (4, .int v9.1)]) (fun rc10 hrc10 v9 => wX12_reaches_49 C h_ h_trial h_weights h_partly h_partlyLongs g_rules g_lefts g_sizes g_rights g_edits g_pastRules g_pastLefts g_pastSizes g_pastRights g_levels g_codes g_details g_asked g_isWorked g_empties g_firsts g_follows g_isKept g_keptEmpties g_keptFirsts g_keptFollows g_strings g_longs g_foundName g_foundToken g_foundP g_foundQ g_moved g_movedSizes g_synchronizing g_input g_inputLong g_stack g_stackParents g_top g_at g_steps g_traced g_traces g_nodes g_made g_nodeSymbols g_nodeParents g_errors g_errorAts g_errorKinds g_errorTops g_bests g_bestLongs g_repaired g_repairedLong c_trial c_trialLong c_weights x1 f6 k8 hk8 rc10 hrc10 v9) N _)
      · exact j_sub [] rfl (hk3 _)

