theorem d4_recoverInput_0 : jda cX4_recoverInput 0 0 1 := Or.inl ⟨0, by decide +kernel⟩
theorem d4_recoverInput_1 : jd cX4_recoverInput 1 (.invokevirtual 50) 3 4 := by decide +kernel
theorem d4_recoverInput_4 : jda cX4_recoverInput 4 0 5 := Or.inl ⟨0, by decide +kernel⟩
theorem d4_recoverInput_5 : jdk cX4_recoverInput 5 0 6 := Or.inl ⟨0, by decide +kernel⟩
theorem d4_recoverInput_6 : jd cX4_recoverInput 6 (.putfield 85) 3 9 := by decide +kernel
theorem d4_recoverInput_9 : jdk cX4_recoverInput 9 0 10 := Or.inl ⟨0, by decide +kernel⟩
theorem d4_recoverInput_10 : jds cX4_recoverInput 10 1 11 := Or.inl ⟨1, by decide +kernel⟩
theorem d4_recoverInput_11 : jdi cX4_recoverInput 11 1 12 := Or.inl ⟨1, by decide +kernel⟩
theorem d4_recoverInput_12 : jdk cX4_recoverInput 12 300 15 := Or.inr (Or.inr ⟨300, by decide +kernel⟩)
theorem d4_recoverInput_15 : jdb cX4_recoverInput 15 (.if_icmp .gt 64) 64 79 18 := by decide +kernel
theorem d4_recoverInput_18 : jda cX4_recoverInput 18 0 19 := Or.inl ⟨0, by decide +kernel⟩
theorem d4_recoverInput_19 : jd cX4_recoverInput 19 (.invokevirtual 53) 3 22 := by decide +kernel
theorem d4_recoverInput_22 : jdb cX4_recoverInput 22 (.ifCond .eq 8) 8 30 25 := by decide +kernel
theorem d4_recoverInput_25 : jda cX4_recoverInput 25 0 26 := Or.inl ⟨0, by decide +kernel⟩
theorem d4_recoverInput_26 : jd cX4_recoverInput 26 (.getfield 85) 3 29 := by decide +kernel
theorem d4_recoverInput_29 : decode cX4_recoverInput 29 = .ok (.ireturn, 1) := by decide +kernel
theorem d4_recoverInput_30 : jda cX4_recoverInput 30 0 31 := Or.inl ⟨0, by decide +kernel⟩
theorem d4_recoverInput_31 : jd cX4_recoverInput 31 (.getfield 57) 3 34 := by decide +kernel
theorem d4_recoverInput_34 : jdk cX4_recoverInput 34 300 37 := Or.inr (Or.inr ⟨300, by decide +kernel⟩)
theorem d4_recoverInput_37 : jdb cX4_recoverInput 37 (.if_icmp .lt 6) 6 43 40 := by decide +kernel
theorem d4_recoverInput_40 : jdk cX4_recoverInput 40 (-6) 42 := Or.inr (Or.inl ⟨(-6), by decide +kernel⟩)
theorem d4_recoverInput_42 : decode cX4_recoverInput 42 = .ok (.ireturn, 1) := by decide +kernel
theorem d4_recoverInput_43 : jda cX4_recoverInput 43 0 44 := Or.inl ⟨0, by decide +kernel⟩
theorem d4_recoverInput_44 : jd cX4_recoverInput 44 (.invokevirtual 65) 3 47 := by decide +kernel
theorem d4_recoverInput_47 : jdb cX4_recoverInput 47 (.ifCond .eq 10) 10 57 50 := by decide +kernel
theorem d4_recoverInput_50 : jda cX4_recoverInput 50 0 51 := Or.inl ⟨0, by decide +kernel⟩
theorem d4_recoverInput_51 : jd cX4_recoverInput 51 (.invokevirtual 79) 3 54 := by decide +kernel
theorem d4_recoverInput_54 : jdb cX4_recoverInput 54 (.goto 7) 7 61 57 := by decide +kernel
theorem d4_recoverInput_57 : jda cX4_recoverInput 57 0 58 := Or.inl ⟨0, by decide +kernel⟩
theorem d4_recoverInput_58 : jd cX4_recoverInput 58 (.invokevirtual 88) 3 61 := by decide +kernel
theorem d4_recoverInput_61 : jda cX4_recoverInput 61 0 62 := Or.inl ⟨0, by decide +kernel⟩
theorem d4_recoverInput_62 : jd cX4_recoverInput 62 (.getfield 82) 3 65 := by decide +kernel
theorem d4_recoverInput_65 : jdk cX4_recoverInput 65 60 67 := Or.inr (Or.inl ⟨60, by decide +kernel⟩)
theorem d4_recoverInput_67 : jdb cX4_recoverInput 67 (.if_icmp .le 6) 6 73 70 := by decide +kernel
theorem d4_recoverInput_70 : jdk cX4_recoverInput 70 (-6) 72 := Or.inr (Or.inl ⟨(-6), by decide +kernel⟩)
theorem d4_recoverInput_72 : decode cX4_recoverInput 72 = .ok (.ireturn, 1) := by decide +kernel
theorem d4_recoverInput_73 : jd cX4_recoverInput 73 (.iinc 1 1) 3 76 := by decide +kernel
theorem d4_recoverInput_76 : jdb cX4_recoverInput 76 (.goto (-65)) (-65) 11 79 := by decide +kernel
theorem d4_recoverInput_79 : jdk cX4_recoverInput 79 (-6) 81 := Or.inr (Or.inl ⟨(-6), by decide +kernel⟩)
theorem d4_recoverInput_81 : decode cX4_recoverInput 81 = .ok (.ireturn, 1) := by decide +kernel
set_option maxHeartbeats 4000000 in
set_option maxRecDepth 100000 in
theorem wX4_recoverInput_11 {X : jC} {tc : jTC} (C : jx X cX4_recoverInput 2 RX4 (some .int) tc ({ frames := 4, cells := 0, slots := 0, locals := 84 } : Room)) (N : Nat) (h_ h_rules h_rules_codes h_sets h_sets_follow h_table h_table_possible h_table_lowest h_input h_input_terminals h_synchronizing h_trace h_tree h_errorParts h_stack h_bringers : Nat) (g_sets_nullable g_sets_first g_sets_begins g_table_select g_table_conflicts g_tree_symbols g_tree_parents g_tree_heights : Value) (c_rules_codes : (Nat → Int32)) (c_rules_count : Int32) (c_sets_follow : (Nat → Int32)) (c_table_possible : (Nat → Int32)) (c_table_lowest : (Nat → Int32)) (c_input_terminals : (Nat → Int32)) (c_input_length : Int32) (c_synchronizing : (Nat → Int32)) (o2 : Int32) (k17 : ((Nat → Int32) → Int32 → (Nat → Int32) → Int32 → (Nat → Int32) → (Nat → Int32) → Int32 → Int32 → Int32 → Option (Int32 × (Nat → Int32) × Int32 × Int32 × (Nat → Int32) × Int32 × (Nat → Int32) × (Nat → Int32) × Int32 × Int32 × Int32))) (hk17 : ∀ (v54 : (Nat → Int32)) (v55 : Int32) (v56 : (Nat → Int32)) (v57 : Int32) (v58 : (Nat → Int32)) (v59 : (Nat → Int32)) (v60 : Int32) (v61 : Int32) (v62 : Int32), jo X 2 (0, 0) (jQI X (fun (u : (Nat → Int32) × Int32 × Int32 × (Nat → Int32) × Int32 × (Nat → Int32) × (Nat → Int32) × Int32 × Int32 × Int32) => [(h_, .inr (4, [.ref h_rules, .ref h_sets, .ref h_table, .ref h_input, .ref h_synchronizing, .ref h_trace, .int u.2.1, .ref h_tree, .ref h_errorParts, .int u.2.2.2.2.1, .ref h_stack, .ref h_bringers, .int u.2.2.2.2.2.2.2.1, .int u.2.2.2.2.2.2.2.2.1, .int u.2.2.2.2.2.2.2.2.2])), (h_rules, .inr (6, [.ref h_rules_codes, .int c_rules_count])), (h_rules_codes, .inl (tc.1, 24, .inl c_rules_codes)), (h_sets, .inr (7, [g_sets_nullable, g_sets_first, .ref h_sets_follow, g_sets_begins])), (h_sets_follow, .inl (tc.1, 8, .inl c_sets_follow)), (h_table, .inr (8, [.ref h_rules, .ref h_sets, g_table_select, .ref h_table_possible, .ref h_table_lowest, g_table_conflicts])), (h_table_possible, .inl (tc.1, 72, .inl c_table_possible)), (h_table_lowest, .inl (tc.1, 72, .inl c_table_lowest)), (h_input, .inr (3, [.ref h_input_terminals, .int c_input_length])), (h_input_terminals, .inl (tc.1, 40, .inl c_input_terminals)), (h_synchronizing, .inl (tc.1, 8, .inl c_synchronizing)), (h_trace, .inl (tc.1, 300, .inl u.1)), (h_tree, .inr (9, [g_tree_symbols, g_tree_parents, g_tree_heights, .int u.2.2.1])), (h_errorParts, .inl (tc.1, 900, .inl u.2.2.2.1)), (h_stack, .inl (tc.1, 65, .inl u.2.2.2.2.2.1)), (h_bringers, .inl (tc.1, 65, .inl u.2.2.2.2.2.2.1))])) (k17 v54 v55 v56 v57 v58 v59 v60 v61 v62) [(h_, .inr (4, [.ref h_rules, .ref h_sets, .ref h_table, .ref h_input, .ref h_synchronizing, .ref h_trace, .int v55, .ref h_tree, .ref h_errorParts, .int v57, .ref h_stack, .ref h_bringers, .int v60, .int v61, .int v62])), (h_rules, .inr (6, [.ref h_rules_codes, .int c_rules_count])), (h_rules_codes, .inl (tc.1, 24, .inl c_rules_codes)), (h_sets, .inr (7, [g_sets_nullable, g_sets_first, .ref h_sets_follow, g_sets_begins])), (h_sets_follow, .inl (tc.1, 8, .inl c_sets_follow)), (h_table, .inr (8, [.ref h_rules, .ref h_sets, g_table_select, .ref h_table_possible, .ref h_table_lowest, g_table_conflicts])), (h_table_possible, .inl (tc.1, 72, .inl c_table_possible)), (h_table_lowest, .inl (tc.1, 72, .inl c_table_lowest)), (h_input, .inr (3, [.ref h_input_terminals, .int c_input_length])), (h_input_terminals, .inl (tc.1, 40, .inl c_input_terminals)), (h_synchronizing, .inl (tc.1, 8, .inl c_synchronizing)), (h_trace, .inl (tc.1, 300, .inl v54)), (h_tree, .inr (9, [g_tree_symbols, g_tree_parents, g_tree_heights, .int o2])), (h_errorParts, .inl (tc.1, 900, .inl v56)), (h_stack, .inl (tc.1, 65, .inl v58)), (h_bringers, .inl (tc.1, 65, .inl v59))] 79 [] []) (rc28 : Int32 → (Nat → Int32) → Int32 → (Nat → Int32) → Int32 → (Nat → Int32) → (Nat → Int32) → Int32 → Int32 → Int32 → Option (Int32 × (Nat → Int32) × Int32 × Int32 × (Nat → Int32) × Int32 × (Nat → Int32) × (Nat → Int32) × Int32 × Int32 × Int32)) (hrc28 : ∀ (v18 : Int32) (v19 : (Nat → Int32)) (v20 : Int32) (v21 : (Nat → Int32)) (v22 : Int32) (v23 : (Nat → Int32)) (v24 : (Nat → Int32)) (v25 : Int32) (v26 : Int32) (v27 : Int32), jo X 2 (0, 0) (jQI X (fun (u : (Nat → Int32) × Int32 × Int32 × (Nat → Int32) × Int32 × (Nat → Int32) × (Nat → Int32) × Int32 × Int32 × Int32) => [(h_, .inr (4, [.ref h_rules, .ref h_sets, .ref h_table, .ref h_input, .ref h_synchronizing, .ref h_trace, .int u.2.1, .ref h_tree, .ref h_errorParts, .int u.2.2.2.2.1, .ref h_stack, .ref h_bringers, .int u.2.2.2.2.2.2.2.1, .int u.2.2.2.2.2.2.2.2.1, .int u.2.2.2.2.2.2.2.2.2])), (h_rules, .inr (6, [.ref h_rules_codes, .int c_rules_count])), (h_rules_codes, .inl (tc.1, 24, .inl c_rules_codes)), (h_sets, .inr (7, [g_sets_nullable, g_sets_first, .ref h_sets_follow, g_sets_begins])), (h_sets_follow, .inl (tc.1, 8, .inl c_sets_follow)), (h_table, .inr (8, [.ref h_rules, .ref h_sets, g_table_select, .ref h_table_possible, .ref h_table_lowest, g_table_conflicts])), (h_table_possible, .inl (tc.1, 72, .inl c_table_possible)), (h_table_lowest, .inl (tc.1, 72, .inl c_table_lowest)), (h_input, .inr (3, [.ref h_input_terminals, .int c_input_length])), (h_input_terminals, .inl (tc.1, 40, .inl c_input_terminals)), (h_synchronizing, .inl (tc.1, 8, .inl c_synchronizing)), (h_trace, .inl (tc.1, 300, .inl u.1)), (h_tree, .inr (9, [g_tree_symbols, g_tree_parents, g_tree_heights, .int u.2.2.1])), (h_errorParts, .inl (tc.1, 900, .inl u.2.2.2.1)), (h_stack, .inl (tc.1, 65, .inl u.2.2.2.2.2.1)), (h_bringers, .inl (tc.1, 65, .inl u.2.2.2.2.2.2.1))])) (rc28 v18 v19 v20 v21 v22 v23 v24 v25 v26 v27) [(h_, .inr (4, [.ref h_rules, .ref h_sets, .ref h_table, .ref h_input, .ref h_synchronizing, .ref h_trace, .int v20, .ref h_tree, .ref h_errorParts, .int v22, .ref h_stack, .ref h_bringers, .int v25, .int v26, .int v27])), (h_rules, .inr (6, [.ref h_rules_codes, .int c_rules_count])), (h_rules_codes, .inl (tc.1, 24, .inl c_rules_codes)), (h_sets, .inr (7, [g_sets_nullable, g_sets_first, .ref h_sets_follow, g_sets_begins])), (h_sets_follow, .inl (tc.1, 8, .inl c_sets_follow)), (h_table, .inr (8, [.ref h_rules, .ref h_sets, g_table_select, .ref h_table_possible, .ref h_table_lowest, g_table_conflicts])), (h_table_possible, .inl (tc.1, 72, .inl c_table_possible)), (h_table_lowest, .inl (tc.1, 72, .inl c_table_lowest)), (h_input, .inr (3, [.ref h_input_terminals, .int c_input_length])), (h_input_terminals, .inl (tc.1, 40, .inl c_input_terminals)), (h_synchronizing, .inl (tc.1, 8, .inl c_synchronizing)), (h_trace, .inl (tc.1, 300, .inl v19)), (h_tree, .inr (9, [g_tree_symbols, g_tree_parents, g_tree_heights, .int o2])), (h_errorParts, .inl (tc.1, 900, .inl v21)), (h_stack, .inl (tc.1, 65, .inl v23)), (h_bringers, .inl (tc.1, 65, .inl v24))] 11 [(0, .ref h_), (1, .int v18)] []) (v18 : Int32) (v19 : (Nat → Int32)) (v20 : Int32) (v21 : (Nat → Int32)) (v22 : Int32) (v23 : (Nat → Int32)) (v24 : (Nat → Int32)) (v25 : Int32) (v26 : Int32) (v27 : Int32) : jo X 2 (0, 0) (jQI X (fun (u : (Nat → Int32) × Int32 × Int32 × (Nat → Int32) × Int32 × (Nat → Int32) × (Nat → Int32) × Int32 × Int32 × Int32) => [(h_, .inr (4, [.ref h_rules, .ref h_sets, .ref h_table, .ref h_input, .ref h_synchronizing, .ref h_trace, .int u.2.1, .ref h_tree, .ref h_errorParts, .int u.2.2.2.2.1, .ref h_stack, .ref h_bringers, .int u.2.2.2.2.2.2.2.1, .int u.2.2.2.2.2.2.2.2.1, .int u.2.2.2.2.2.2.2.2.2])), (h_rules, .inr (6, [.ref h_rules_codes, .int c_rules_count])), (h_rules_codes, .inl (tc.1, 24, .inl c_rules_codes)), (h_sets, .inr (7, [g_sets_nullable, g_sets_first, .ref h_sets_follow, g_sets_begins])), (h_sets_follow, .inl (tc.1, 8, .inl c_sets_follow)), (h_table, .inr (8, [.ref h_rules, .ref h_sets, g_table_select, .ref h_table_possible, .ref h_table_lowest, g_table_conflicts])), (h_table_possible, .inl (tc.1, 72, .inl c_table_possible)), (h_table_lowest, .inl (tc.1, 72, .inl c_table_lowest)), (h_input, .inr (3, [.ref h_input_terminals, .int c_input_length])), (h_input_terminals, .inl (tc.1, 40, .inl c_input_terminals)), (h_synchronizing, .inl (tc.1, 8, .inl c_synchronizing)), (h_trace, .inl (tc.1, 300, .inl u.1)), (h_tree, .inr (9, [g_tree_symbols, g_tree_parents, g_tree_heights, .int u.2.2.1])), (h_errorParts, .inl (tc.1, 900, .inl u.2.2.2.1)), (h_stack, .inl (tc.1, 65, .inl u.2.2.2.2.2.1)), (h_bringers, .inl (tc.1, 65, .inl u.2.2.2.2.2.2.1))])) (bX4_recoverInput_11 N c_rules_codes c_rules_count c_sets_follow c_table_possible c_table_lowest c_input_terminals c_input_length c_synchronizing o2 k17 rc28 v18 v19 v20 v21 v22 v23 v24 v25 v26 v27) [(h_, .inr (4, [.ref h_rules, .ref h_sets, .ref h_table, .ref h_input, .ref h_synchronizing, .ref h_trace, .int v20, .ref h_tree, .ref h_errorParts, .int v22, .ref h_stack, .ref h_bringers, .int v25, .int v26, .int v27])), (h_rules, .inr (6, [.ref h_rules_codes, .int c_rules_count])), (h_rules_codes, .inl (tc.1, 24, .inl c_rules_codes)), (h_sets, .inr (7, [g_sets_nullable, g_sets_first, .ref h_sets_follow, g_sets_begins])), (h_sets_follow, .inl (tc.1, 8, .inl c_sets_follow)), (h_table, .inr (8, [.ref h_rules, .ref h_sets, g_table_select, .ref h_table_possible, .ref h_table_lowest, g_table_conflicts])), (h_table_possible, .inl (tc.1, 72, .inl c_table_possible)), (h_table_lowest, .inl (tc.1, 72, .inl c_table_lowest)), (h_input, .inr (3, [.ref h_input_terminals, .int c_input_length])), (h_input_terminals, .inl (tc.1, 40, .inl c_input_terminals)), (h_synchronizing, .inl (tc.1, 8, .inl c_synchronizing)), (h_trace, .inl (tc.1, 300, .inl v19)), (h_tree, .inr (9, [g_tree_symbols, g_tree_parents, g_tree_heights, .int o2])), (h_errorParts, .inl (tc.1, 900, .inl v21)), (h_stack, .inl (tc.1, 65, .inl v23)), (h_bringers, .inl (tc.1, 65, .inl v24))] 11 [(0, .ref h_), (1, .int v18)] [] := by
  unfold bX4_recoverInput_11
  refine j_iload C d4_recoverInput_11 1 rfl ?_
  refine j_const C d4_recoverInput_12 ?_
  refine j_icmp_gt C d4_recoverInput_15 ?_ ?_
  · exact j_sub [] rfl (hk17 _ _ _ _ _ _ _ _ _)
  · refine j_aload C d4_recoverInput_18 0 rfl ?_
    refine j_callVI0 (As := []) C d4_recoverInput_19 mv4_53 (kX4_accepts _ _ tc h_ h_input h_input_terminals (.ref h_rules) (.ref h_sets) (.ref h_table) (.ref h_synchronizing) (.ref h_trace) (.int v20) (.ref h_tree) (.ref h_errorParts) (.int v22) (.ref h_stack) (.ref h_bringers) (.int v27) c_input_terminals c_input_length v25 v26) ⟨rfl, rfl, Nat.le_of_ble_eq_true rfl, Nat.le_of_ble_eq_true rfl⟩ rfl 0 rfl [0, 8, 9] rfl rfl rfl (Nat.le_of_ble_eq_true rfl) (fun x29 => ?_)
    refine j_if_eq C d4_recoverInput_22 ?_ ?_
    · refine j_aload C d4_recoverInput_30 0 rfl ?_
      refine j_get C d4_recoverInput_31 fl4_57 0 rfl rfl ?_
      refine j_const C d4_recoverInput_34 ?_
      refine j_icmp_lt C d4_recoverInput_37 ?_ ?_
      · refine j_aload C d4_recoverInput_43 0 rfl ?_
        refine j_callVI0 (As := []) C d4_recoverInput_44 mv4_65 (kX4_canMove _ _ tc h_ h_table h_table_possible h_table_lowest h_input h_input_terminals h_stack (.ref h_rules) (.ref h_sets) (.ref h_synchronizing) (.ref h_trace) (.int v20) (.ref h_tree) (.ref h_errorParts) (.int v22) (.ref h_bringers) (.int v27) (.ref h_rules) (.ref h_sets) g_table_select g_table_conflicts c_table_possible c_table_lowest c_input_terminals c_input_length v23 v25 v26) ⟨rfl, rfl, Nat.le_of_ble_eq_true rfl, Nat.le_of_ble_eq_true rfl⟩ rfl 0 rfl [0, 5, 6, 7, 8, 9, 14] rfl rfl rfl (Nat.le_of_ble_eq_true rfl) (fun x30 => ?_)
        refine j_join9 61 (fun v31 v32 v33 v34 v35 v36 v37 v38 v39 => [(h_, .inr (4, [.ref h_rules, .ref h_sets, .ref h_table, .ref h_input, .ref h_synchronizing, .ref h_trace, .int v32, .ref h_tree, .ref h_errorParts, .int v34, .ref h_stack, .ref h_bringers, .int v37, .int v38, .int v39])), (h_rules, .inr (6, [.ref h_rules_codes, .int c_rules_count])), (h_rules_codes, .inl (tc.1, 24, .inl c_rules_codes)), (h_sets, .inr (7, [g_sets_nullable, g_sets_first, .ref h_sets_follow, g_sets_begins])), (h_sets_follow, .inl (tc.1, 8, .inl c_sets_follow)), (h_table, .inr (8, [.ref h_rules, .ref h_sets, g_table_select, .ref h_table_possible, .ref h_table_lowest, g_table_conflicts])), (h_table_possible, .inl (tc.1, 72, .inl c_table_possible)), (h_table_lowest, .inl (tc.1, 72, .inl c_table_lowest)), (h_input, .inr (3, [.ref h_input_terminals, .int c_input_length])), (h_input_terminals, .inl (tc.1, 40, .inl c_input_terminals)), (h_synchronizing, .inl (tc.1, 8, .inl c_synchronizing)), (h_trace, .inl (tc.1, 300, .inl v31)), (h_tree, .inr (9, [g_tree_symbols, g_tree_parents, g_tree_heights, .int o2])), (h_errorParts, .inl (tc.1, 900, .inl v33)), (h_stack, .inl (tc.1, 65, .inl v35)), (h_bringers, .inl (tc.1, 65, .inl v36))]) (fun v31 v32 v33 v34 v35 v36 v37 v38 v39 => [(0, .ref h_), (1, .int v18)]) (fun v31 v32 v33 v34 v35 v36 v37 v38 v39 => []) (fun v31 v32 v33 v34 v35 v36 v37 v38 v39 => ?_) (fun k41 hk41 => ?_)
        · refine j_aload C d4_recoverInput_61 0 rfl ?_
          refine j_get C d4_recoverInput_62 fl4_82 0 rfl rfl ?_
          refine j_const C d4_recoverInput_65 ?_
          refine j_icmp_le C d4_recoverInput_67 ?_ ?_
          · refine j_iincN C (fun x40 => [(1, .int x40), (0, .ref h_)]) d4_recoverInput_73 1 rfl (by decide +kernel) (by decide) (fun _ => rfl) (fun x40 => ?_)
            refine j_goto C d4_recoverInput_76 ?_
            exact j_sub [1, 0] rfl (hrc28 _ _ _ _ _ _ _ _ _ _)
          · refine j_const C d4_recoverInput_70 ?_
            exact j_iret C d4_recoverInput_72 rfl
        · refine j_if_eq C d4_recoverInput_47 ?_ ?_
          · refine j_aload C d4_recoverInput_57 0 rfl ?_
            refine j_callVV5 (As := []) C d4_recoverInput_58 mv4_88 (kX4_passError _ _ tc h_ h_sets h_sets_follow h_input h_input_terminals h_synchronizing h_errorParts h_stack (.ref h_rules) (.ref h_table) (.ref h_trace) (.int v20) (.ref h_tree) (.ref h_bringers) g_sets_nullable g_sets_first g_sets_begins c_sets_follow c_input_terminals c_input_length c_synchronizing v21 v22 v23 v25 v26 v27) ⟨rfl, rfl, Nat.le_of_ble_eq_true rfl, Nat.le_of_ble_eq_true rfl⟩ rfl 0 rfl [0, 3, 4, 8, 9, 10, 13, 14] rfl rfl rfl (Nat.le_of_ble_eq_true rfl) (fun o42 o43 o44 o45 o46 => [(h_, .inr (4, [.ref h_rules, .ref h_sets, .ref h_table, .ref h_input, .ref h_synchronizing, .ref h_trace, .int v20, .ref h_tree, .ref h_errorParts, .int o43, .ref h_stack, .ref h_bringers, .int o44, .int o45, .int o46])), (h_rules, .inr (6, [.ref h_rules_codes, .int c_rules_count])), (h_rules_codes, .inl (tc.1, 24, .inl c_rules_codes)), (h_sets, .inr (7, [g_sets_nullable, g_sets_first, .ref h_sets_follow, g_sets_begins])), (h_sets_follow, .inl (tc.1, 8, .inl c_sets_follow)), (h_table, .inr (8, [.ref h_rules, .ref h_sets, g_table_select, .ref h_table_possible, .ref h_table_lowest, g_table_conflicts])), (h_table_possible, .inl (tc.1, 72, .inl c_table_possible)), (h_table_lowest, .inl (tc.1, 72, .inl c_table_lowest)), (h_input, .inr (3, [.ref h_input_terminals, .int c_input_length])), (h_input_terminals, .inl (tc.1, 40, .inl c_input_terminals)), (h_synchronizing, .inl (tc.1, 8, .inl c_synchronizing)), (h_trace, .inl (tc.1, 300, .inl v19)), (h_tree, .inr (9, [g_tree_symbols, g_tree_parents, g_tree_heights, .int o2])), (h_errorParts, .inl (tc.1, 900, .inl o42)), (h_stack, .inl (tc.1, 65, .inl v23)), (h_bringers, .inl (tc.1, 65, .inl v24))]) [(true, 0), (false, 1), (false, 2), (true, 1), (true, 2), (false, 5), (false, 6), (false, 7), (true, 3), (true, 4), (true, 5), (false, 11), (false, 12), (true, 6), (true, 7), (false, 15)] (fun _ => rfl) (by decide +kernel) (fun o42 o43 o44 o45 o46 => ?_)
            exact hk41 _ _ _ _ _ _ _ _ _
          · refine j_aload C d4_recoverInput_50 0 rfl ?_
            refine j_callVV7 (As := []) C d4_recoverInput_51 mv4_79 (kX4_move _ _ tc N h_ h_rules h_rules_codes h_table h_table_possible h_table_lowest h_input h_input_terminals h_trace h_stack h_bringers (.ref h_sets) (.ref h_synchronizing) (.ref h_tree) (.ref h_errorParts) (.int v22) (.ref h_sets) g_table_select g_table_conflicts c_rules_codes c_rules_count c_table_possible c_table_lowest c_input_terminals c_input_length v19 v20 v23 v24 v25 v26 v27) ⟨rfl, rfl, Nat.le_of_ble_eq_true rfl, Nat.le_of_ble_eq_true rfl⟩ rfl 0 rfl [0, 1, 2, 5, 6, 7, 8, 9, 11, 14, 15] rfl rfl rfl (Nat.le_of_ble_eq_true rfl) (fun o47 o48 o49 o50 o51 o52 o53 => [(h_, .inr (4, [.ref h_rules, .ref h_sets, .ref h_table, .ref h_input, .ref h_synchronizing, .ref h_trace, .int o48, .ref h_tree, .ref h_errorParts, .int v22, .ref h_stack, .ref h_bringers, .int o51, .int o52, .int o53])), (h_rules, .inr (6, [.ref h_rules_codes, .int c_rules_count])), (h_rules_codes, .inl (tc.1, 24, .inl c_rules_codes)), (h_sets, .inr (7, [g_sets_nullable, g_sets_first, .ref h_sets_follow, g_sets_begins])), (h_sets_follow, .inl (tc.1, 8, .inl c_sets_follow)), (h_table, .inr (8, [.ref h_rules, .ref h_sets, g_table_select, .ref h_table_possible, .ref h_table_lowest, g_table_conflicts])), (h_table_possible, .inl (tc.1, 72, .inl c_table_possible)), (h_table_lowest, .inl (tc.1, 72, .inl c_table_lowest)), (h_input, .inr (3, [.ref h_input_terminals, .int c_input_length])), (h_input_terminals, .inl (tc.1, 40, .inl c_input_terminals)), (h_synchronizing, .inl (tc.1, 8, .inl c_synchronizing)), (h_trace, .inl (tc.1, 300, .inl o47)), (h_tree, .inr (9, [g_tree_symbols, g_tree_parents, g_tree_heights, .int o2])), (h_errorParts, .inl (tc.1, 900, .inl v21)), (h_stack, .inl (tc.1, 65, .inl o49)), (h_bringers, .inl (tc.1, 65, .inl o50))]) [(true, 0), (true, 1), (true, 2), (false, 3), (false, 4), (true, 3), (true, 4), (true, 5), (true, 6), (true, 7), (false, 10), (true, 8), (false, 12), (false, 13), (true, 9), (true, 10)] (fun _ => rfl) (by decide +kernel) (fun o47 o48 o49 o50 o51 o52 o53 => ?_)
            refine j_goto C d4_recoverInput_54 ?_
            exact hk41 _ _ _ _ _ _ _ _ _
      · refine j_const C d4_recoverInput_40 ?_
        exact j_iret C d4_recoverInput_42 rfl
    · refine j_aload C d4_recoverInput_25 0 rfl ?_
      refine j_get C d4_recoverInput_26 fl4_85 0 rfl rfl ?_
      exact j_iret C d4_recoverInput_29 rfl

set_option maxHeartbeats 4000000 in
set_option maxRecDepth 100000 in
theorem kX4_recoverInput (l : Launch) (D : va_G) (tc : jTC) (N : Nat) (h_ h_rules h_rules_codes h_sets h_sets_follow h_table h_table_possible h_table_lowest h_input h_input_terminals h_synchronizing h_trace h_tree h_errorParts h_stack h_bringers : Nat) (g_sets_nullable g_sets_first g_sets_begins g_table_select g_table_conflicts g_tree_symbols g_tree_parents g_tree_heights : Value) (c_rules_codes : (Nat → Int32)) (c_rules_count : Int32) (c_sets_follow : (Nat → Int32)) (c_table_possible : (Nat → Int32)) (c_table_lowest : (Nat → Int32)) (c_input_terminals : (Nat → Int32)) (c_input_length : Int32) (c_synchronizing : (Nat → Int32)) (c_trace : (Nat → Int32)) (c_traceLength : Int32) (c_tree_count : Int32) (c_errorParts : (Nat → Int32)) (c_errorCount : Int32) (c_stack : (Nat → Int32)) (c_bringers : (Nat → Int32)) (c_depth : Int32) (c_index : Int32) (c_steps : Int32) : ctI l D tc yX4_recoverInput (Cond.code yX4_recoverInput cX4_recoverInput 2 (some .int) :: jtb) ({ frames := 4, cells := 0, slots := 0, locals := 84 } : Room) [.ref h_] [(h_, .inr (4, [.ref h_rules, .ref h_sets, .ref h_table, .ref h_input, .ref h_synchronizing, .ref h_trace, .int c_traceLength, .ref h_tree, .ref h_errorParts, .int c_errorCount, .ref h_stack, .ref h_bringers, .int c_depth, .int c_index, .int c_steps])), (h_rules, .inr (6, [.ref h_rules_codes, .int c_rules_count])), (h_rules_codes, .inl (tc.1, 24, .inl c_rules_codes)), (h_sets, .inr (7, [g_sets_nullable, g_sets_first, .ref h_sets_follow, g_sets_begins])), (h_sets_follow, .inl (tc.1, 8, .inl c_sets_follow)), (h_table, .inr (8, [.ref h_rules, .ref h_sets, g_table_select, .ref h_table_possible, .ref h_table_lowest, g_table_conflicts])), (h_table_possible, .inl (tc.1, 72, .inl c_table_possible)), (h_table_lowest, .inl (tc.1, 72, .inl c_table_lowest)), (h_input, .inr (3, [.ref h_input_terminals, .int c_input_length])), (h_input_terminals, .inl (tc.1, 40, .inl c_input_terminals)), (h_synchronizing, .inl (tc.1, 8, .inl c_synchronizing)), (h_trace, .inl (tc.1, 300, .inl c_trace)), (h_tree, .inr (9, [g_tree_symbols, g_tree_parents, g_tree_heights, .int c_tree_count])), (h_errorParts, .inl (tc.1, 900, .inl c_errorParts)), (h_stack, .inl (tc.1, 65, .inl c_stack)), (h_bringers, .inl (tc.1, 65, .inl c_bringers))] (fX4_recoverInput N c_rules_codes c_rules_count c_sets_follow c_table_possible c_table_lowest c_input_terminals c_input_length c_synchronizing c_trace c_traceLength c_tree_count c_errorParts c_errorCount c_stack c_bringers c_depth c_index c_steps) (fun (u : (Nat → Int32) × Int32 × Int32 × (Nat → Int32) × Int32 × (Nat → Int32) × (Nat → Int32) × Int32 × Int32 × Int32) => [(h_, .inr (4, [.ref h_rules, .ref h_sets, .ref h_table, .ref h_input, .ref h_synchronizing, .ref h_trace, .int u.2.1, .ref h_tree, .ref h_errorParts, .int u.2.2.2.2.1, .ref h_stack, .ref h_bringers, .int u.2.2.2.2.2.2.2.1, .int u.2.2.2.2.2.2.2.2.1, .int u.2.2.2.2.2.2.2.2.2])), (h_rules, .inr (6, [.ref h_rules_codes, .int c_rules_count])), (h_rules_codes, .inl (tc.1, 24, .inl c_rules_codes)), (h_sets, .inr (7, [g_sets_nullable, g_sets_first, .ref h_sets_follow, g_sets_begins])), (h_sets_follow, .inl (tc.1, 8, .inl c_sets_follow)), (h_table, .inr (8, [.ref h_rules, .ref h_sets, g_table_select, .ref h_table_possible, .ref h_table_lowest, g_table_conflicts])), (h_table_possible, .inl (tc.1, 72, .inl c_table_possible)), (h_table_lowest, .inl (tc.1, 72, .inl c_table_lowest)), (h_input, .inr (3, [.ref h_input_terminals, .int c_input_length])), (h_input_terminals, .inl (tc.1, 40, .inl c_input_terminals)), (h_synchronizing, .inl (tc.1, 8, .inl c_synchronizing)), (h_trace, .inl (tc.1, 300, .inl u.1)), (h_tree, .inr (9, [g_tree_symbols, g_tree_parents, g_tree_heights, .int u.2.2.1])), (h_errorParts, .inl (tc.1, 900, .inl u.2.2.2.1)), (h_stack, .inl (tc.1, 65, .inl u.2.2.2.2.2.1)), (h_bringers, .inl (tc.1, 65, .inl u.2.2.2.2.2.2.1))]) := by
  refine ctI_of (lv0 := [(0, .ref h_)]) (by decide +kernel) (Nat.le_of_ble_eq_true rfl) rfl (fun X C => ?_)
  unfold fX4_recoverInput
  refine j_aload C d4_recoverInput_0 0 rfl ?_
  refine j_callVV7 (As := []) C d4_recoverInput_1 mv4_50 (kX4_begin _ _ tc h_ h_tree h_stack h_bringers (.ref h_rules) (.ref h_sets) (.ref h_table) (.ref h_input) (.ref h_synchronizing) (.ref h_trace) (.ref h_errorParts) (.int c_errorCount) g_tree_symbols g_tree_parents g_tree_heights c_traceLength c_tree_count c_stack c_bringers c_depth c_index c_steps) ⟨rfl, rfl, Nat.le_of_ble_eq_true rfl, Nat.le_of_ble_eq_true rfl⟩ rfl 0 rfl [0, 12, 14, 15] rfl rfl rfl (Nat.le_of_ble_eq_true rfl) (fun o1 o2 o3 o4 o5 o6 o7 => [(h_, .inr (4, [.ref h_rules, .ref h_sets, .ref h_table, .ref h_input, .ref h_synchronizing, .ref h_trace, .int o1, .ref h_tree, .ref h_errorParts, .int c_errorCount, .ref h_stack, .ref h_bringers, .int o5, .int o6, .int o7])), (h_rules, .inr (6, [.ref h_rules_codes, .int c_rules_count])), (h_rules_codes, .inl (tc.1, 24, .inl c_rules_codes)), (h_sets, .inr (7, [g_sets_nullable, g_sets_first, .ref h_sets_follow, g_sets_begins])), (h_sets_follow, .inl (tc.1, 8, .inl c_sets_follow)), (h_table, .inr (8, [.ref h_rules, .ref h_sets, g_table_select, .ref h_table_possible, .ref h_table_lowest, g_table_conflicts])), (h_table_possible, .inl (tc.1, 72, .inl c_table_possible)), (h_table_lowest, .inl (tc.1, 72, .inl c_table_lowest)), (h_input, .inr (3, [.ref h_input_terminals, .int c_input_length])), (h_input_terminals, .inl (tc.1, 40, .inl c_input_terminals)), (h_synchronizing, .inl (tc.1, 8, .inl c_synchronizing)), (h_trace, .inl (tc.1, 300, .inl c_trace)), (h_tree, .inr (9, [g_tree_symbols, g_tree_parents, g_tree_heights, .int o2])), (h_errorParts, .inl (tc.1, 900, .inl c_errorParts)), (h_stack, .inl (tc.1, 65, .inl o3)), (h_bringers, .inl (tc.1, 65, .inl o4))]) [(true, 0), (false, 1), (false, 2), (false, 3), (false, 4), (false, 5), (false, 6), (false, 7), (false, 8), (false, 9), (false, 10), (false, 11), (true, 1), (false, 13), (true, 2), (true, 3)] (fun _ => rfl) (by decide +kernel) (fun o1 o2 o3 o4 o5 o6 o7 => ?_)
  refine j_aload C d4_recoverInput_4 0 rfl ?_
  refine j_const C d4_recoverInput_5 ?_
  refine j_putq C d4_recoverInput_6 fq4_85 0 rfl rfl rfl (Nat.le_of_ble_eq_true rfl) (ws' := [(h_, .inr (4, [.ref h_rules, .ref h_sets, .ref h_table, .ref h_input, .ref h_synchronizing, .ref h_trace, .int o1, .ref h_tree, .ref h_errorParts, .int 0, .ref h_stack, .ref h_bringers, .int o5, .int o6, .int o7])), (h_rules, .inr (6, [.ref h_rules_codes, .int c_rules_count])), (h_rules_codes, .inl (tc.1, 24, .inl c_rules_codes)), (h_sets, .inr (7, [g_sets_nullable, g_sets_first, .ref h_sets_follow, g_sets_begins])), (h_sets_follow, .inl (tc.1, 8, .inl c_sets_follow)), (h_table, .inr (8, [.ref h_rules, .ref h_sets, g_table_select, .ref h_table_possible, .ref h_table_lowest, g_table_conflicts])), (h_table_possible, .inl (tc.1, 72, .inl c_table_possible)), (h_table_lowest, .inl (tc.1, 72, .inl c_table_lowest)), (h_input, .inr (3, [.ref h_input_terminals, .int c_input_length])), (h_input_terminals, .inl (tc.1, 40, .inl c_input_terminals)), (h_synchronizing, .inl (tc.1, 8, .inl c_synchronizing)), (h_trace, .inl (tc.1, 300, .inl c_trace)), (h_tree, .inr (9, [g_tree_symbols, g_tree_parents, g_tree_heights, .int o2])), (h_errorParts, .inl (tc.1, 900, .inl c_errorParts)), (h_stack, .inl (tc.1, 65, .inl o3)), (h_bringers, .inl (tc.1, 65, .inl o4))]) rfl ?_
  refine j_const C d4_recoverInput_9 ?_
  refine j_istore C d4_recoverInput_10 (by decide) (lv' := [(1, .int 0), (0, .ref h_)]) rfl ?_
  refine j_join9 79 (fun v8 v9 v10 v11 v12 v13 v14 v15 v16 => [(h_, .inr (4, [.ref h_rules, .ref h_sets, .ref h_table, .ref h_input, .ref h_synchronizing, .ref h_trace, .int v9, .ref h_tree, .ref h_errorParts, .int v11, .ref h_stack, .ref h_bringers, .int v14, .int v15, .int v16])), (h_rules, .inr (6, [.ref h_rules_codes, .int c_rules_count])), (h_rules_codes, .inl (tc.1, 24, .inl c_rules_codes)), (h_sets, .inr (7, [g_sets_nullable, g_sets_first, .ref h_sets_follow, g_sets_begins])), (h_sets_follow, .inl (tc.1, 8, .inl c_sets_follow)), (h_table, .inr (8, [.ref h_rules, .ref h_sets, g_table_select, .ref h_table_possible, .ref h_table_lowest, g_table_conflicts])), (h_table_possible, .inl (tc.1, 72, .inl c_table_possible)), (h_table_lowest, .inl (tc.1, 72, .inl c_table_lowest)), (h_input, .inr (3, [.ref h_input_terminals, .int c_input_length])), (h_input_terminals, .inl (tc.1, 40, .inl c_input_terminals)), (h_synchronizing, .inl (tc.1, 8, .inl c_synchronizing)), (h_trace, .inl (tc.1, 300, .inl v8)), (h_tree, .inr (9, [g_tree_symbols, g_tree_parents, g_tree_heights, .int o2])), (h_errorParts, .inl (tc.1, 900, .inl v10)), (h_stack, .inl (tc.1, 65, .inl v12)), (h_bringers, .inl (tc.1, 65, .inl v13))]) (fun v8 v9 v10 v11 v12 v13 v14 v15 v16 => []) (fun v8 v9 v10 v11 v12 v13 v14 v15 v16 => []) (fun v8 v9 v10 v11 v12 v13 v14 v15 v16 => ?_) (fun k17 hk17 => ?_)
  · refine j_const C d4_recoverInput_79 ?_
    exact j_iret C d4_recoverInput_81 rfl
  · exact j_sub [1, 0] rfl (j_loop10 (fun v18 v19 v20 v21 v22 v23 v24 v25 v26 v27 => [(h_, .inr (4, [.ref h_rules, .ref h_sets, .ref h_table, .ref h_input, .ref h_synchronizing, .ref h_trace, .int v20, .ref h_tree, .ref h_errorParts, .int v22, .ref h_stack, .ref h_bringers, .int v25, .int v26, .int v27])), (h_rules, .inr (6, [.ref h_rules_codes, .int c_rules_count])), (h_rules_codes, .inl (tc.1, 24, .inl c_rules_codes)), (h_sets, .inr (7, [g_sets_nullable, g_sets_first, .ref h_sets_follow, g_sets_begins])), (h_sets_follow, .inl (tc.1, 8, .inl c_sets_follow)), (h_table, .inr (8, [.ref h_rules, .ref h_sets, g_table_select, .ref h_table_possible, .ref h_table_lowest, g_table_conflicts])), (h_table_possible, .inl (tc.1, 72, .inl c_table_possible)), (h_table_lowest, .inl (tc.1, 72, .inl c_table_lowest)), (h_input, .inr (3, [.ref h_input_terminals, .int c_input_length])), (h_input_terminals, .inl (tc.1, 40, .inl c_input_terminals)), (h_synchronizing, .inl (tc.1, 8, .inl c_synchronizing)), (h_trace, .inl (tc.1, 300, .inl v19)), (h_tree, .inr (9, [g_tree_symbols, g_tree_parents, g_tree_heights, .int o2])), (h_errorParts, .inl (tc.1, 900, .inl v21)), (h_stack, .inl (tc.1, 65, .inl v23)), (h_bringers, .inl (tc.1, 65, .inl v24))]) (fun v18 v19 v20 v21 v22 v23 v24 v25 v26 v27 => [(0, .ref h_), (1, .int v18)]) (fun rc28 hrc28 v18 v19 v20 v21 v22 v23 v24 v25 v26 v27 => wX4_recoverInput_11 C N h_ h_rules h_rules_codes h_sets h_sets_follow h_table h_table_possible h_table_lowest h_input h_input_terminals h_synchronizing h_trace h_tree h_errorParts h_stack h_bringers g_sets_nullable g_sets_first g_sets_begins g_table_select g_table_conflicts g_tree_symbols g_tree_parents g_tree_heights c_rules_codes c_rules_count c_sets_follow c_table_possible c_table_lowest c_input_terminals c_input_length c_synchronizing o2 k17 hk17 rc28 hrc28 v18 v19 v20 v21 v22 v23 v24 v25 v26 v27) N _ _ _ _ _ _ _ _ _ _)

theorem d6_isOf_0 : jdi cX6_isOf 0 0 1 := Or.inl ⟨0, by decide +kernel⟩
theorem d6_isOf_1 : jd cX6_isOf 1 (.invokestatic 15) 3 4 := by decide +kernel
theorem d6_isOf_4 : jdi cX6_isOf 4 1 5 := Or.inl ⟨1, by decide +kernel⟩
theorem d6_isOf_5 : jdb cX6_isOf 5 (.if_icmp .ne 7) 7 12 8 := by decide +kernel
theorem d6_isOf_8 : jdk cX6_isOf 8 1 9 := Or.inl ⟨1, by decide +kernel⟩
theorem d6_isOf_9 : jdb cX6_isOf 9 (.goto 4) 4 13 12 := by decide +kernel
theorem d6_isOf_12 : jdk cX6_isOf 12 0 13 := Or.inl ⟨0, by decide +kernel⟩
theorem d6_isOf_13 : decode cX6_isOf 13 = .ok (.ireturn, 1) := by decide +kernel
set_option maxHeartbeats 4000000 in
set_option maxRecDepth 100000 in
theorem kX6_isOf (l : Launch) (D : va_G) (tc : jTC) (p0 : Int32) (p1 : Int32) : ctI0 l D tc yX6_isOf (Cond.code yX6_isOf cX6_isOf 2 (some .boolean) :: jtb) ({ frames := 1, cells := 0, slots := 0, locals := 20 } : Room) [.int p0, .int p1] [] (fX6_isOf p0 p1) := by
  refine ctI0_of (lv0 := [(0, .int p0), (1, .int p1)]) (by decide +kernel) (Nat.le_of_ble_eq_true rfl) rfl (fun X C => ?_)
  unfold fX6_isOf
  refine j_iload C d6_isOf_0 0 rfl ?_
  refine j_callSI0 (As := [.int p0]) C d6_isOf_1 ms6_15 (kX6_leftOf _ _ tc p0) ⟨rfl, rfl, Nat.le_of_ble_eq_true rfl, Nat.le_of_ble_eq_true rfl⟩ rfl [] rfl rfl rfl (Nat.le_of_ble_eq_true rfl) (fun x1 => ?_)
  refine j_iload C d6_isOf_4 1 rfl ?_
  refine j_join 13 (fun v2 => []) (fun v2 => []) (fun v2 => [.int v2]) (fun v2 => ?_) (fun k3 hk3 => ?_)
  · refine j_gz (fun hz => ?_)
    exact j_zret0 C hz d6_isOf_13
  · refine j_icmp_ne C d6_isOf_5 ?_ ?_
    · refine j_const C d6_isOf_12 ?_
      exact j_sub [] rfl (hk3 _)
    · refine j_const C d6_isOf_8 ?_
      refine j_goto C d6_isOf_9 ?_
      exact j_sub [] rfl (hk3 _)

theorem d6_productionsOf_0 : jdk cX6_productionsOf 0 0 1 := Or.inl ⟨0, by decide +kernel⟩
theorem d6_productionsOf_1 : jds cX6_productionsOf 1 2 2 := Or.inl ⟨2, by decide +kernel⟩
theorem d6_productionsOf_2 : jdk cX6_productionsOf 2 0 3 := Or.inl ⟨0, by decide +kernel⟩
theorem d6_productionsOf_3 : jds cX6_productionsOf 3 3 4 := Or.inl ⟨3, by decide +kernel⟩
theorem d6_productionsOf_4 : jdi cX6_productionsOf 4 3 5 := Or.inl ⟨3, by decide +kernel⟩
theorem d6_productionsOf_5 : jda cX6_productionsOf 5 0 6 := Or.inl ⟨0, by decide +kernel⟩
theorem d6_productionsOf_6 : jd cX6_productionsOf 6 (.getfield 37) 3 9 := by decide +kernel
theorem d6_productionsOf_9 : jdb cX6_productionsOf 9 (.if_icmp .ge 25) 25 34 12 := by decide +kernel
theorem d6_productionsOf_12 : jda cX6_productionsOf 12 0 13 := Or.inl ⟨0, by decide +kernel⟩
theorem d6_productionsOf_13 : jd cX6_productionsOf 13 (.getfield 9) 3 16 := by decide +kernel
theorem d6_productionsOf_16 : jdi cX6_productionsOf 16 3 17 := Or.inl ⟨3, by decide +kernel⟩
theorem d6_productionsOf_17 : jd cX6_productionsOf 17 (.iaload) 1 18 := by decide +kernel
theorem d6_productionsOf_18 : jdi cX6_productionsOf 18 1 19 := Or.inl ⟨1, by decide +kernel⟩
theorem d6_productionsOf_19 : jd cX6_productionsOf 19 (.invokestatic 47) 3 22 := by decide +kernel
theorem d6_productionsOf_22 : jdb cX6_productionsOf 22 (.ifCond .eq 6) 6 28 25 := by decide +kernel
theorem d6_productionsOf_25 : jd cX6_productionsOf 25 (.iinc 2 1) 3 28 := by decide +kernel
theorem d6_productionsOf_28 : jd cX6_productionsOf 28 (.iinc 3 1) 3 31 := by decide +kernel
theorem d6_productionsOf_31 : jdb cX6_productionsOf 31 (.goto (-27)) (-27) 4 34 := by decide +kernel
theorem d6_productionsOf_34 : jdi cX6_productionsOf 34 2 35 := Or.inl ⟨2, by decide +kernel⟩
theorem d6_productionsOf_35 : decode cX6_productionsOf 35 = .ok (.ireturn, 1) := by decide +kernel
set_option maxHeartbeats 4000000 in
set_option maxRecDepth 100000 in
theorem wX6_productionsOf_4 {X : jC} {tc : jTC} (C : jx X cX6_productionsOf 4 RX6 (some .int) tc ({ frames := 2, cells := 0, slots := 0, locals := 41 } : Room)) (h_ h_codes : Nat) (p1 : Int32) (c_codes : (Nat → Int32)) (c_count : Int32) (k2 : (Int32 → Option (Int32))) (hk2 : ∀ (v12 : Int32), jo X 4 (0, 0) (jQI0 X [(h_, .inr (6, [.ref h_codes, .int c_count])), (h_codes, .inl (tc.1, 24, .inl c_codes))]) (k2 v12) [(h_, .inr (6, [.ref h_codes, .int c_count])), (h_codes, .inl (tc.1, 24, .inl c_codes))] 34 [(2, .int v12)] []) (rc5 : Int32 → Int32 → Option (Int32)) (hrc5 : ∀ (v3 : Int32) (v4 : Int32), jo X 4 (0, 0) (jQI0 X [(h_, .inr (6, [.ref h_codes, .int c_count])), (h_codes, .inl (tc.1, 24, .inl c_codes))]) (rc5 v3 v4) [(h_, .inr (6, [.ref h_codes, .int c_count])), (h_codes, .inl (tc.1, 24, .inl c_codes))] 4 [(0, .ref h_), (1, .int p1), (2, .int v3), (3, .int v4)] []) (v3 : Int32) (v4 : Int32) : jo X 4 (0, 0) (jQI0 X [(h_, .inr (6, [.ref h_codes, .int c_count])), (h_codes, .inl (tc.1, 24, .inl c_codes))]) (bX6_productionsOf_4 p1 c_codes c_count k2 rc5 v3 v4) [(h_, .inr (6, [.ref h_codes, .int c_count])), (h_codes, .inl (tc.1, 24, .inl c_codes))] 4 [(0, .ref h_), (1, .int p1), (2, .int v3), (3, .int v4)] [] := by
  unfold bX6_productionsOf_4
  refine j_iload C d6_productionsOf_4 3 rfl ?_
  refine j_aload C d6_productionsOf_5 0 rfl ?_
  refine j_get C d6_productionsOf_6 fl6_37 0 rfl rfl ?_
  refine j_icmp_ge C d6_productionsOf_9 ?_ ?_
  · exact j_sub [2] rfl (hk2 _)
  · refine j_aload C d6_productionsOf_12 0 rfl ?_
    refine j_get C d6_productionsOf_13 fl6_9 0 rfl rfl ?_
    refine j_iload C d6_productionsOf_16 3 rfl ?_
    refine j_iald C d6_productionsOf_17 1 rfl (fun x6 => ?_)
    refine j_iload C d6_productionsOf_18 1 rfl ?_
    refine j_callSI0 (As := [.int x6, .int p1]) C d6_productionsOf_19 ms6_47 (kX6_isOf _ _ tc x6 p1) ⟨rfl, rfl, Nat.le_of_ble_eq_true rfl, Nat.le_of_ble_eq_true rfl⟩ rfl [] rfl rfl rfl (Nat.le_of_ble_eq_true rfl) (fun x7 => ?_)
    refine j_join 28 (fun v8 => [(h_, .inr (6, [.ref h_codes, .int c_count])), (h_codes, .inl (tc.1, 24, .inl c_codes))]) (fun v8 => [(0, .ref h_), (1, .int p1), (2, .int v8), (3, .int v4)]) (fun v8 => []) (fun v8 => ?_) (fun k10 hk10 => ?_)
    · refine j_iincN C (fun x9 => [(3, .int x9), (0, .ref h_), (1, .int p1), (2, .int v8)]) d6_productionsOf_28 3 rfl (by decide +kernel) (by decide) (fun _ => rfl) (fun x9 => ?_)
      refine j_goto C d6_productionsOf_31 ?_
      exact j_sub [1, 2, 3, 0] rfl (hrc5 _ _)
    · refine j_if_eq C d6_productionsOf_22 ?_ ?_
      · exact hk10 _
      · refine j_iincN C (fun x11 => [(2, .int x11), (0, .ref h_), (1, .int p1), (3, .int v4)]) d6_productionsOf_25 2 rfl (by decide +kernel) (by decide) (fun _ => rfl) (fun x11 => ?_)
        exact j_sub [1, 2, 0, 3] rfl (hk10 _)

set_option maxHeartbeats 4000000 in
set_option maxRecDepth 100000 in
theorem kX6_productionsOf (l : Launch) (D : va_G) (tc : jTC) (N : Nat) (h_ h_codes : Nat) (c_codes : (Nat → Int32)) (c_count : Int32) (p1 : Int32) : ctI0 l D tc yX6_productionsOf (Cond.code yX6_productionsOf cX6_productionsOf 4 (some .int) :: jtb) ({ frames := 2, cells := 0, slots := 0, locals := 41 } : Room) [.ref h_, .int p1] [(h_, .inr (6, [.ref h_codes, .int c_count])), (h_codes, .inl (tc.1, 24, .inl c_codes))] (fX6_productionsOf N c_codes c_count p1) := by
  refine ctI0_of (lv0 := [(0, .ref h_), (1, .int p1)]) (by decide +kernel) (Nat.le_of_ble_eq_true rfl) rfl (fun X C => ?_)
  unfold fX6_productionsOf
  refine j_const C d6_productionsOf_0 ?_
  refine j_istore C d6_productionsOf_1 (by decide) (lv' := [(2, .int 0), (0, .ref h_), (1, .int p1)]) rfl ?_
  refine j_const C d6_productionsOf_2 ?_
  refine j_istore C d6_productionsOf_3 (by decide) (lv' := [(3, .int 0), (2, .int 0), (0, .ref h_), (1, .int p1)]) rfl ?_
  refine j_join 34 (fun v1 => [(h_, .inr (6, [.ref h_codes, .int c_count])), (h_codes, .inl (tc.1, 24, .inl c_codes))]) (fun v1 => [(2, .int v1)]) (fun v1 => []) (fun v1 => ?_) (fun k2 hk2 => ?_)
  · refine j_iload C d6_productionsOf_34 0 rfl ?_
    exact j_iret0 C d6_productionsOf_35
  · exact j_sub [2, 3, 1, 0] rfl (j_loop2 (fun v3 v4 => [(h_, .inr (6, [.ref h_codes, .int c_count])), (h_codes, .inl (tc.1, 24, .inl c_codes))]) (fun v3 v4 => [(0, .ref h_), (1, .int p1), (2, .int v3), (3, .int v4)]) (fun rc5 hrc5 v3 v4 => wX6_productionsOf_4 C h_ h_codes p1 c_codes c_count k2 hk2 rc5 hrc5 v3 v4) N _ _)

theorem d8_entriesOf_0 : jdk cX8_entriesOf 0 0 1 := Or.inl ⟨0, by decide +kernel⟩
theorem d8_entriesOf_1 : jds cX8_entriesOf 1 2 2 := Or.inl ⟨2, by decide +kernel⟩
theorem d8_entriesOf_2 : jdk cX8_entriesOf 2 0 3 := Or.inl ⟨0, by decide +kernel⟩
theorem d8_entriesOf_3 : jds cX8_entriesOf 3 3 4 := Or.inl ⟨3, by decide +kernel⟩
theorem d8_entriesOf_4 : jdi cX8_entriesOf 4 3 5 := Or.inl ⟨3, by decide +kernel⟩
theorem d8_entriesOf_5 : jdk cX8_entriesOf 5 9 7 := Or.inr (Or.inl ⟨9, by decide +kernel⟩)
theorem d8_entriesOf_7 : jdb cX8_entriesOf 7 (.if_icmp .ge 26) 26 33 10 := by decide +kernel
theorem d8_entriesOf_10 : jda cX8_entriesOf 10 0 11 := Or.inl ⟨0, by decide +kernel⟩
theorem d8_entriesOf_11 : jd cX8_entriesOf 11 (.getfield 15) 3 14 := by decide +kernel
theorem d8_entriesOf_14 : jdi cX8_entriesOf 14 1 15 := Or.inl ⟨1, by decide +kernel⟩
theorem d8_entriesOf_15 : jdk cX8_entriesOf 15 9 17 := Or.inr (Or.inl ⟨9, by decide +kernel⟩)
theorem d8_entriesOf_17 : jd cX8_entriesOf 17 (.imul) 1 18 := by decide +kernel
theorem d8_entriesOf_18 : jdi cX8_entriesOf 18 3 19 := Or.inl ⟨3, by decide +kernel⟩
theorem d8_entriesOf_19 : jd cX8_entriesOf 19 (.iadd) 1 20 := by decide +kernel
theorem d8_entriesOf_20 : jd cX8_entriesOf 20 (.iaload) 1 21 := by decide +kernel
theorem d8_entriesOf_21 : jdb cX8_entriesOf 21 (.ifCond .le 6) 6 27 24 := by decide +kernel
theorem d8_entriesOf_24 : jd cX8_entriesOf 24 (.iinc 2 1) 3 27 := by decide +kernel
theorem d8_entriesOf_27 : jd cX8_entriesOf 27 (.iinc 3 1) 3 30 := by decide +kernel
theorem d8_entriesOf_30 : jdb cX8_entriesOf 30 (.goto (-26)) (-26) 4 33 := by decide +kernel
theorem d8_entriesOf_33 : jdi cX8_entriesOf 33 2 34 := Or.inl ⟨2, by decide +kernel⟩
theorem d8_entriesOf_34 : decode cX8_entriesOf 34 = .ok (.ireturn, 1) := by decide +kernel
set_option maxHeartbeats 4000000 in
set_option maxRecDepth 100000 in
theorem wX8_entriesOf_4 {X : jC} {tc : jTC} (C : jx X cX8_entriesOf 4 RX8 (some .int) tc ({ frames := 0, cells := 0, slots := 0, locals := 0 } : Room)) (h_ h_possible : Nat) (g_rules g_sets g_select g_lowest g_conflicts : Value) (p1 : Int32) (c_possible : (Nat → Int32)) (k2 : (Int32 → Option (Int32))) (hk2 : ∀ (v11 : Int32), jo X 4 (0, 0) (jQI0 X [(h_, .inr (8, [g_rules, g_sets, g_select, .ref h_possible, g_lowest, g_conflicts])), (h_possible, .inl (tc.1, 72, .inl c_possible))]) (k2 v11) [(h_, .inr (8, [g_rules, g_sets, g_select, .ref h_possible, g_lowest, g_conflicts])), (h_possible, .inl (tc.1, 72, .inl c_possible))] 33 [(2, .int v11)] []) (rc5 : Int32 → Int32 → Option (Int32)) (hrc5 : ∀ (v3 : Int32) (v4 : Int32), jo X 4 (0, 0) (jQI0 X [(h_, .inr (8, [g_rules, g_sets, g_select, .ref h_possible, g_lowest, g_conflicts])), (h_possible, .inl (tc.1, 72, .inl c_possible))]) (rc5 v3 v4) [(h_, .inr (8, [g_rules, g_sets, g_select, .ref h_possible, g_lowest, g_conflicts])), (h_possible, .inl (tc.1, 72, .inl c_possible))] 4 [(0, .ref h_), (1, .int p1), (2, .int v3), (3, .int v4)] []) (v3 : Int32) (v4 : Int32) : jo X 4 (0, 0) (jQI0 X [(h_, .inr (8, [g_rules, g_sets, g_select, .ref h_possible, g_lowest, g_conflicts])), (h_possible, .inl (tc.1, 72, .inl c_possible))]) (bX8_entriesOf_4 p1 c_possible k2 rc5 v3 v4) [(h_, .inr (8, [g_rules, g_sets, g_select, .ref h_possible, g_lowest, g_conflicts])), (h_possible, .inl (tc.1, 72, .inl c_possible))] 4 [(0, .ref h_), (1, .int p1), (2, .int v3), (3, .int v4)] [] := by
  unfold bX8_entriesOf_4
  refine j_iload C d8_entriesOf_4 3 rfl ?_
  refine j_const C d8_entriesOf_5 ?_
  refine j_icmp_ge C d8_entriesOf_7 ?_ ?_
  · exact j_sub [2] rfl (hk2 _)
  · refine j_aload C d8_entriesOf_10 0 rfl ?_
    refine j_get C d8_entriesOf_11 fl8_15 0 rfl rfl ?_
    refine j_iload C d8_entriesOf_14 1 rfl ?_
    refine j_const C d8_entriesOf_15 ?_
    refine j_imul C d8_entriesOf_17 ?_
    refine j_iload C d8_entriesOf_18 3 rfl ?_
    refine j_iadd C d8_entriesOf_19 ?_
    refine j_iald C d8_entriesOf_20 1 rfl (fun x6 => ?_)
    refine j_join 27 (fun v7 => [(h_, .inr (8, [g_rules, g_sets, g_select, .ref h_possible, g_lowest, g_conflicts])), (h_possible, .inl (tc.1, 72, .inl c_possible))]) (fun v7 => [(0, .ref h_), (1, .int p1), (2, .int v7), (3, .int v4)]) (fun v7 => []) (fun v7 => ?_) (fun k9 hk9 => ?_)
    · refine j_iincN C (fun x8 => [(3, .int x8), (0, .ref h_), (1, .int p1), (2, .int v7)]) d8_entriesOf_27 3 rfl (by decide +kernel) (by decide) (fun _ => rfl) (fun x8 => ?_)
      refine j_goto C d8_entriesOf_30 ?_
      exact j_sub [1, 2, 3, 0] rfl (hrc5 _ _)
    · refine j_if_le C d8_entriesOf_21 ?_ ?_
      · exact hk9 _
      · refine j_iincN C (fun x10 => [(2, .int x10), (0, .ref h_), (1, .int p1), (3, .int v4)]) d8_entriesOf_24 2 rfl (by decide +kernel) (by decide) (fun _ => rfl) (fun x10 => ?_)
        exact j_sub [1, 2, 0, 3] rfl (hk9 _)

set_option maxHeartbeats 4000000 in
set_option maxRecDepth 100000 in
theorem kX8_entriesOf (l : Launch) (D : va_G) (tc : jTC) (N : Nat) (h_ h_possible : Nat) (g_rules g_sets g_select g_lowest g_conflicts : Value) (c_possible : (Nat → Int32)) (p1 : Int32) : ctI0 l D tc yX8_entriesOf (Cond.code yX8_entriesOf cX8_entriesOf 4 (some .int) :: jtb) ({ frames := 0, cells := 0, slots := 0, locals := 0 } : Room) [.ref h_, .int p1] [(h_, .inr (8, [g_rules, g_sets, g_select, .ref h_possible, g_lowest, g_conflicts])), (h_possible, .inl (tc.1, 72, .inl c_possible))] (fX8_entriesOf N c_possible p1) := by
  refine ctI0_of (lv0 := [(0, .ref h_), (1, .int p1)]) (by decide +kernel) (Nat.le_of_ble_eq_true rfl) rfl (fun X C => ?_)
  unfold fX8_entriesOf
  refine j_const C d8_entriesOf_0 ?_
  refine j_istore C d8_entriesOf_1 (by decide) (lv' := [(2, .int 0), (0, .ref h_), (1, .int p1)]) rfl ?_
  refine j_const C d8_entriesOf_2 ?_
  refine j_istore C d8_entriesOf_3 (by decide) (lv' := [(3, .int 0), (2, .int 0), (0, .ref h_), (1, .int p1)]) rfl ?_
  refine j_join 33 (fun v1 => [(h_, .inr (8, [g_rules, g_sets, g_select, .ref h_possible, g_lowest, g_conflicts])), (h_possible, .inl (tc.1, 72, .inl c_possible))]) (fun v1 => [(2, .int v1)]) (fun v1 => []) (fun v1 => ?_) (fun k2 hk2 => ?_)
  · refine j_iload C d8_entriesOf_33 0 rfl ?_
    exact j_iret0 C d8_entriesOf_34
  · exact j_sub [2, 3, 1, 0] rfl (j_loop2 (fun v3 v4 => [(h_, .inr (8, [g_rules, g_sets, g_select, .ref h_possible, g_lowest, g_conflicts])), (h_possible, .inl (tc.1, 72, .inl c_possible))]) (fun v3 v4 => [(0, .ref h_), (1, .int p1), (2, .int v3), (3, .int v4)]) (fun rc5 hrc5 v3 v4 => wX8_entriesOf_4 C h_ h_possible g_rules g_sets g_select g_lowest g_conflicts p1 c_possible k2 hk2 rc5 hrc5 v3 v4) N _ _)

theorem d4_explainNoEntry_0 : jda cX4_explainNoEntry 0 1 1 := Or.inl ⟨1, by decide +kernel⟩
theorem d4_explainNoEntry_1 : jdk cX4_explainNoEntry 1 3 2 := Or.inl ⟨3, by decide +kernel⟩
theorem d4_explainNoEntry_2 : jdi cX4_explainNoEntry 2 2 3 := Or.inl ⟨2, by decide +kernel⟩
theorem d4_explainNoEntry_3 : jd cX4_explainNoEntry 3 (.invokevirtual 99) 3 6 := by decide +kernel
theorem d4_explainNoEntry_6 : jda cX4_explainNoEntry 6 0 7 := Or.inl ⟨0, by decide +kernel⟩
theorem d4_explainNoEntry_7 : jd cX4_explainNoEntry 7 (.getfield 34) 3 10 := by decide +kernel
theorem d4_explainNoEntry_10 : jdi cX4_explainNoEntry 10 2 11 := Or.inl ⟨2, by decide +kernel⟩
theorem d4_explainNoEntry_11 : jd cX4_explainNoEntry 11 (.invokevirtual 111) 3 14 := by decide +kernel
theorem d4_explainNoEntry_14 : jdb cX4_explainNoEntry 14 (.ifCond .ne 12) 12 26 17 := by decide +kernel
theorem d4_explainNoEntry_17 : jda cX4_explainNoEntry 17 1 18 := Or.inl ⟨1, by decide +kernel⟩
theorem d4_explainNoEntry_18 : jdk cX4_explainNoEntry 18 5 19 := Or.inl ⟨5, by decide +kernel⟩
theorem d4_explainNoEntry_19 : jdi cX4_explainNoEntry 19 2 20 := Or.inl ⟨2, by decide +kernel⟩
theorem d4_explainNoEntry_20 : jd cX4_explainNoEntry 20 (.invokevirtual 99) 3 23 := by decide +kernel
theorem d4_explainNoEntry_23 : jdb cX4_explainNoEntry 23 (.goto 17) 17 40 26 := by decide +kernel
theorem d4_explainNoEntry_26 : jda cX4_explainNoEntry 26 1 27 := Or.inl ⟨1, by decide +kernel⟩
theorem d4_explainNoEntry_27 : jdk cX4_explainNoEntry 27 6 29 := Or.inr (Or.inl ⟨6, by decide +kernel⟩)
theorem d4_explainNoEntry_29 : jda cX4_explainNoEntry 29 0 30 := Or.inl ⟨0, by decide +kernel⟩
theorem d4_explainNoEntry_30 : jd cX4_explainNoEntry 30 (.getfield 42) 3 33 := by decide +kernel
theorem d4_explainNoEntry_33 : jdi cX4_explainNoEntry 33 2 34 := Or.inl ⟨2, by decide +kernel⟩
theorem d4_explainNoEntry_34 : jd cX4_explainNoEntry 34 (.invokevirtual 117) 3 37 := by decide +kernel
theorem d4_explainNoEntry_37 : jd cX4_explainNoEntry 37 (.invokevirtual 99) 3 40 := by decide +kernel
theorem d4_explainNoEntry_40 : decode cX4_explainNoEntry 40 = .ok (.return_, 1) := by decide +kernel
set_option maxHeartbeats 4000000 in
set_option maxRecDepth 100000 in
theorem kX4_explainNoEntry (l : Launch) (D : va_G) (tc : jTC) (N : Nat) (h_ h_rules h_rules_codes h_table h_table_possible h_p1 h_p1_codes h_p1_details : Nat) (g_sets g_input g_synchronizing g_trace g_traceLength g_tree g_errorParts g_errorCount g_stack g_bringers g_depth g_index g_steps g_table_sets g_table_select g_table_lowest g_table_conflicts : Value) (c_rules_codes : (Nat → Int32)) (c_rules_count : Int32) (c_table_possible : (Nat → Int32)) (c_p1_codes : (Nat → Int32)) (c_p1_details : (Nat → Int32)) (c_p1_levels : Int32) (p2 : Int32) : ctV l D tc yX4_explainNoEntry (Cond.code yX4_explainNoEntry cX4_explainNoEntry 3 none :: jtb) ({ frames := 3, cells := 0, slots := 0, locals := 64 } : Room) [.ref h_, .ref h_p1, .int p2] [(h_, .inr (4, [.ref h_rules, g_sets, .ref h_table, g_input, g_synchronizing, g_trace, g_traceLength, g_tree, g_errorParts, g_errorCount, g_stack, g_bringers, g_depth, g_index, g_steps])), (h_rules, .inr (6, [.ref h_rules_codes, .int c_rules_count])), (h_rules_codes, .inl (tc.1, 24, .inl c_rules_codes)), (h_table, .inr (8, [.ref h_rules, g_table_sets, g_table_select, .ref h_table_possible, g_table_lowest, g_table_conflicts])), (h_table_possible, .inl (tc.1, 72, .inl c_table_possible)), (h_p1, .inr (1, [.ref h_p1_codes, .ref h_p1_details, .int c_p1_levels])), (h_p1_codes, .inl (tc.1, 3, .inl c_p1_codes)), (h_p1_details, .inl (tc.1, 3, .inl c_p1_details))] (fX4_explainNoEntry N c_rules_codes c_rules_count c_table_possible c_p1_codes c_p1_details c_p1_levels p2) (fun (u : (Nat → Int32) × (Nat → Int32) × Int32) => [(h_, .inr (4, [.ref h_rules, g_sets, .ref h_table, g_input, g_synchronizing, g_trace, g_traceLength, g_tree, g_errorParts, g_errorCount, g_stack, g_bringers, g_depth, g_index, g_steps])), (h_rules, .inr (6, [.ref h_rules_codes, .int c_rules_count])), (h_rules_codes, .inl (tc.1, 24, .inl c_rules_codes)), (h_table, .inr (8, [.ref h_rules, g_table_sets, g_table_select, .ref h_table_possible, g_table_lowest, g_table_conflicts])), (h_table_possible, .inl (tc.1, 72, .inl c_table_possible)), (h_p1, .inr (1, [.ref h_p1_codes, .ref h_p1_details, .int u.2.2])), (h_p1_codes, .inl (tc.1, 3, .inl u.1)), (h_p1_details, .inl (tc.1, 3, .inl u.2.1))]) := by
  refine ctV_of (lv0 := [(0, .ref h_), (1, .ref h_p1), (2, .int p2)]) (by decide +kernel) (Nat.le_of_ble_eq_true rfl) rfl (fun X C => ?_)
  unfold fX4_explainNoEntry
  refine j_aload C d4_explainNoEntry_0 1 rfl ?_
  refine j_const C d4_explainNoEntry_1 ?_
  refine j_iload C d4_explainNoEntry_2 2 rfl ?_
  refine j_callVV3 (As := [.int 3, .int p2]) C d4_explainNoEntry_3 mv4_99 (kX1_because _ _ tc h_p1 h_p1_codes h_p1_details c_p1_codes c_p1_details c_p1_levels 3 p2) ⟨rfl, rfl, Nat.le_of_ble_eq_true rfl, Nat.le_of_ble_eq_true rfl⟩ rfl 5 rfl [5, 6, 7] rfl rfl rfl (Nat.le_of_ble_eq_true rfl) (fun o1 o2 o3 => [(h_, .inr (4, [.ref h_rules, g_sets, .ref h_table, g_input, g_synchronizing, g_trace, g_traceLength, g_tree, g_errorParts, g_errorCount, g_stack, g_bringers, g_depth, g_index, g_steps])), (h_rules, .inr (6, [.ref h_rules_codes, .int c_rules_count])), (h_rules_codes, .inl (tc.1, 24, .inl c_rules_codes)), (h_table, .inr (8, [.ref h_rules, g_table_sets, g_table_select, .ref h_table_possible, g_table_lowest, g_table_conflicts])), (h_table_possible, .inl (tc.1, 72, .inl c_table_possible)), (h_p1, .inr (1, [.ref h_p1_codes, .ref h_p1_details, .int o3])), (h_p1_codes, .inl (tc.1, 3, .inl o1)), (h_p1_details, .inl (tc.1, 3, .inl o2))]) [(false, 0), (false, 1), (false, 2), (false, 3), (false, 4), (true, 0), (true, 1), (true, 2)] (fun _ => rfl) (by decide +kernel) (fun o1 o2 o3 => ?_)
  refine j_aload C d4_explainNoEntry_6 0 rfl ?_
  refine j_get C d4_explainNoEntry_7 fl4_34 0 rfl rfl ?_
  refine j_iload C d4_explainNoEntry_10 2 rfl ?_
  refine j_callVI0 (As := [.int p2]) C d4_explainNoEntry_11 mv4_111 (kX6_productionsOf _ _ tc N h_rules h_rules_codes c_rules_codes c_rules_count p2) ⟨rfl, rfl, Nat.le_of_ble_eq_true rfl, Nat.le_of_ble_eq_true rfl⟩ rfl 1 rfl [1, 2] rfl rfl rfl (Nat.le_of_ble_eq_true rfl) (fun x4 => ?_)
  refine j_join3 40 (fun v5 v6 v7 => [(h_, .inr (4, [.ref h_rules, g_sets, .ref h_table, g_input, g_synchronizing, g_trace, g_traceLength, g_tree, g_errorParts, g_errorCount, g_stack, g_bringers, g_depth, g_index, g_steps])), (h_rules, .inr (6, [.ref h_rules_codes, .int c_rules_count])), (h_rules_codes, .inl (tc.1, 24, .inl c_rules_codes)), (h_table, .inr (8, [.ref h_rules, g_table_sets, g_table_select, .ref h_table_possible, g_table_lowest, g_table_conflicts])), (h_table_possible, .inl (tc.1, 72, .inl c_table_possible)), (h_p1, .inr (1, [.ref h_p1_codes, .ref h_p1_details, .int v7])), (h_p1_codes, .inl (tc.1, 3, .inl v5)), (h_p1_details, .inl (tc.1, 3, .inl v6))]) (fun v5 v6 v7 => []) (fun v5 v6 v7 => []) (fun v5 v6 v7 => ?_) (fun k8 hk8 => ?_)
  · exact j_vret C d4_explainNoEntry_40 rfl
  · refine j_if_ne C d4_explainNoEntry_14 ?_ ?_
    · refine j_aload C d4_explainNoEntry_26 1 rfl ?_
      refine j_const C d4_explainNoEntry_27 ?_
      refine j_aload C d4_explainNoEntry_29 0 rfl ?_
      refine j_get C d4_explainNoEntry_30 fl4_42 0 rfl rfl ?_
      refine j_iload C d4_explainNoEntry_33 2 rfl ?_
      refine j_callVI0 (As := [.int p2]) C d4_explainNoEntry_34 mv4_117 (kX8_entriesOf _ _ tc N h_table h_table_possible (.ref h_rules) g_table_sets g_table_select g_table_lowest g_table_conflicts c_table_possible p2) ⟨rfl, rfl, Nat.le_of_ble_eq_true rfl, Nat.le_of_ble_eq_true rfl⟩ rfl 3 rfl [3, 4] rfl rfl rfl (Nat.le_of_ble_eq_true rfl) (fun x9 => ?_)
      refine j_callVV3 (As := [.int 6, .int x9]) C d4_explainNoEntry_37 mv4_99 (kX1_because _ _ tc h_p1 h_p1_codes h_p1_details o1 o2 o3 6 x9) ⟨rfl, rfl, Nat.le_of_ble_eq_true rfl, Nat.le_of_ble_eq_true rfl⟩ rfl 5 rfl [5, 6, 7] rfl rfl rfl (Nat.le_of_ble_eq_true rfl) (fun o10 o11 o12 => [(h_, .inr (4, [.ref h_rules, g_sets, .ref h_table, g_input, g_synchronizing, g_trace, g_traceLength, g_tree, g_errorParts, g_errorCount, g_stack, g_bringers, g_depth, g_index, g_steps])), (h_rules, .inr (6, [.ref h_rules_codes, .int c_rules_count])), (h_rules_codes, .inl (tc.1, 24, .inl c_rules_codes)), (h_table, .inr (8, [.ref h_rules, g_table_sets, g_table_select, .ref h_table_possible, g_table_lowest, g_table_conflicts])), (h_table_possible, .inl (tc.1, 72, .inl c_table_possible)), (h_p1, .inr (1, [.ref h_p1_codes, .ref h_p1_details, .int o12])), (h_p1_codes, .inl (tc.1, 3, .inl o10)), (h_p1_details, .inl (tc.1, 3, .inl o11))]) [(false, 0), (false, 1), (false, 2), (false, 3), (false, 4), (true, 0), (true, 1), (true, 2)] (fun _ => rfl) (by decide +kernel) (fun o10 o11 o12 => ?_)
      exact j_sub [] rfl (hk8 _ _ _)
    · refine j_aload C d4_explainNoEntry_17 1 rfl ?_
      refine j_const C d4_explainNoEntry_18 ?_
      refine j_iload C d4_explainNoEntry_19 2 rfl ?_
      refine j_callVV3 (As := [.int 5, .int p2]) C d4_explainNoEntry_20 mv4_99 (kX1_because _ _ tc h_p1 h_p1_codes h_p1_details o1 o2 o3 5 p2) ⟨rfl, rfl, Nat.le_of_ble_eq_true rfl, Nat.le_of_ble_eq_true rfl⟩ rfl 5 rfl [5, 6, 7] rfl rfl rfl (Nat.le_of_ble_eq_true rfl) (fun o13 o14 o15 => [(h_, .inr (4, [.ref h_rules, g_sets, .ref h_table, g_input, g_synchronizing, g_trace, g_traceLength, g_tree, g_errorParts, g_errorCount, g_stack, g_bringers, g_depth, g_index, g_steps])), (h_rules, .inr (6, [.ref h_rules_codes, .int c_rules_count])), (h_rules_codes, .inl (tc.1, 24, .inl c_rules_codes)), (h_table, .inr (8, [.ref h_rules, g_table_sets, g_table_select, .ref h_table_possible, g_table_lowest, g_table_conflicts])), (h_table_possible, .inl (tc.1, 72, .inl c_table_possible)), (h_p1, .inr (1, [.ref h_p1_codes, .ref h_p1_details, .int o15])), (h_p1_codes, .inl (tc.1, 3, .inl o13)), (h_p1_details, .inl (tc.1, 3, .inl o14))]) [(false, 0), (false, 1), (false, 2), (false, 3), (false, 4), (true, 0), (true, 1), (true, 2)] (fun _ => rfl) (by decide +kernel) (fun o13 o14 o15 => ?_)
      refine j_goto C d4_explainNoEntry_23 ?_
      exact j_sub [] rfl (hk8 _ _ _)

theorem d4_explain_0 : jda cX4_explain 0 1 1 := Or.inl ⟨1, by decide +kernel⟩
theorem d4_explain_1 : jdk cX4_explain 1 1 2 := Or.inl ⟨1, by decide +kernel⟩
theorem d4_explain_2 : jda cX4_explain 2 0 3 := Or.inl ⟨0, by decide +kernel⟩
theorem d4_explain_3 : jd cX4_explain 3 (.getfield 93) 3 6 := by decide +kernel
theorem d4_explain_6 : jd cX4_explain 6 (.invokevirtual 96) 3 9 := by decide +kernel
theorem d4_explain_9 : jdi cX4_explain 9 2 10 := Or.inl ⟨2, by decide +kernel⟩
theorem d4_explain_10 : jdk cX4_explain 10 (-6) 12 := Or.inr (Or.inl ⟨(-6), by decide +kernel⟩)
theorem d4_explain_12 : jdb cX4_explain 12 (.if_icmp .ne 16) 16 28 15 := by decide +kernel
theorem d4_explain_15 : jda cX4_explain 15 1 16 := Or.inl ⟨1, by decide +kernel⟩
theorem d4_explain_16 : jdk cX4_explain 16 7 18 := Or.inr (Or.inl ⟨7, by decide +kernel⟩)
theorem d4_explain_18 : jda cX4_explain 18 0 19 := Or.inl ⟨0, by decide +kernel⟩
theorem d4_explain_19 : jd cX4_explain 19 (.getfield 57) 3 22 := by decide +kernel
theorem d4_explain_22 : jd cX4_explain 22 (.invokevirtual 99) 3 25 := by decide +kernel
theorem d4_explain_25 : jdb cX4_explain 25 (.goto 63) 63 88 28 := by decide +kernel
theorem d4_explain_28 : jda cX4_explain 28 0 29 := Or.inl ⟨0, by decide +kernel⟩
theorem d4_explain_29 : jd cX4_explain 29 (.getfield 82) 3 32 := by decide +kernel
theorem d4_explain_32 : jdb cX4_explain 32 (.ifCond .ne 23) 23 55 35 := by decide +kernel
theorem d4_explain_35 : jda cX4_explain 35 1 36 := Or.inl ⟨1, by decide +kernel⟩
theorem d4_explain_36 : jdk cX4_explain 36 4 37 := Or.inl ⟨4, by decide +kernel⟩
theorem d4_explain_37 : jda cX4_explain 37 0 38 := Or.inl ⟨0, by decide +kernel⟩
theorem d4_explain_38 : jd cX4_explain 38 (.getfield 46) 3 41 := by decide +kernel
theorem d4_explain_41 : jd cX4_explain 41 (.getfield 102) 3 44 := by decide +kernel
theorem d4_explain_44 : jda cX4_explain 44 0 45 := Or.inl ⟨0, by decide +kernel⟩
theorem d4_explain_45 : jd cX4_explain 45 (.getfield 93) 3 48 := by decide +kernel
theorem d4_explain_48 : jd cX4_explain 48 (.isub) 1 49 := by decide +kernel
theorem d4_explain_49 : jd cX4_explain 49 (.invokevirtual 99) 3 52 := by decide +kernel
theorem d4_explain_52 : jdb cX4_explain 52 (.goto 36) 36 88 55 := by decide +kernel
theorem d4_explain_55 : jda cX4_explain 55 0 56 := Or.inl ⟨0, by decide +kernel⟩
theorem d4_explain_56 : jd cX4_explain 56 (.invokevirtual 68) 3 59 := by decide +kernel
theorem d4_explain_59 : jdk cX4_explain 59 10 61 := Or.inr (Or.inl ⟨10, by decide +kernel⟩)
theorem d4_explain_61 : jdb cX4_explain 61 (.if_icmp .ge 15) 15 76 64 := by decide +kernel
theorem d4_explain_64 : jda cX4_explain 64 1 65 := Or.inl ⟨1, by decide +kernel⟩
theorem d4_explain_65 : jdk cX4_explain 65 2 66 := Or.inl ⟨2, by decide +kernel⟩
theorem d4_explain_66 : jda cX4_explain 66 0 67 := Or.inl ⟨0, by decide +kernel⟩
theorem d4_explain_67 : jd cX4_explain 67 (.invokevirtual 68) 3 70 := by decide +kernel
theorem d4_explain_70 : jd cX4_explain 70 (.invokevirtual 99) 3 73 := by decide +kernel
theorem d4_explain_73 : jdb cX4_explain 73 (.goto 15) 15 88 76 := by decide +kernel
theorem d4_explain_76 : jda cX4_explain 76 0 77 := Or.inl ⟨0, by decide +kernel⟩
theorem d4_explain_77 : jda cX4_explain 77 1 78 := Or.inl ⟨1, by decide +kernel⟩
theorem d4_explain_78 : jda cX4_explain 78 0 79 := Or.inl ⟨0, by decide +kernel⟩
theorem d4_explain_79 : jd cX4_explain 79 (.invokevirtual 68) 3 82 := by decide +kernel
theorem d4_explain_82 : jdk cX4_explain 82 10 84 := Or.inr (Or.inl ⟨10, by decide +kernel⟩)
theorem d4_explain_84 : jd cX4_explain 84 (.isub) 1 85 := by decide +kernel
theorem d4_explain_85 : jd cX4_explain 85 (.invokevirtual 107) 3 88 := by decide +kernel
theorem d4_explain_88 : decode cX4_explain 88 = .ok (.return_, 1) := by decide +kernel
set_option maxHeartbeats 4000000 in
set_option maxRecDepth 100000 in
theorem kX4_explain (l : Launch) (D : va_G) (tc : jTC) (N : Nat) (h_ h_rules h_rules_codes h_table h_table_possible h_input h_stack h_p1 h_p1_codes h_p1_details : Nat) (g_sets g_synchronizing g_trace g_traceLength g_tree g_errorParts g_errorCount g_bringers g_table_sets g_table_select g_table_lowest g_table_conflicts g_input_terminals : Value) (c_rules_codes : (Nat → Int32)) (c_rules_count : Int32) (c_table_possible : (Nat → Int32)) (c_input_length : Int32) (c_stack : (Nat → Int32)) (c_depth : Int32) (c_index : Int32) (c_steps : Int32) (c_p1_codes : (Nat → Int32)) (c_p1_details : (Nat → Int32)) (c_p1_levels : Int32) (p2 : Int32) : ctV l D tc yX4_explain (Cond.code yX4_explain cX4_explain 3 none :: jtb) ({ frames := 4, cells := 0, slots := 0, locals := 86 } : Room) [.ref h_, .ref h_p1, .int p2] [(h_, .inr (4, [.ref h_rules, g_sets, .ref h_table, .ref h_input, g_synchronizing, g_trace, g_traceLength, g_tree, g_errorParts, g_errorCount, .ref h_stack, g_bringers, .int c_depth, .int c_index, .int c_steps])), (h_rules, .inr (6, [.ref h_rules_codes, .int c_rules_count])), (h_rules_codes, .inl (tc.1, 24, .inl c_rules_codes)), (h_table, .inr (8, [.ref h_rules, g_table_sets, g_table_select, .ref h_table_possible, g_table_lowest, g_table_conflicts])), (h_table_possible, .inl (tc.1, 72, .inl c_table_possible)), (h_input, .inr (3, [g_input_terminals, .int c_input_length])), (h_stack, .inl (tc.1, 65, .inl c_stack)), (h_p1, .inr (1, [.ref h_p1_codes, .ref h_p1_details, .int c_p1_levels])), (h_p1_codes, .inl (tc.1, 3, .inl c_p1_codes)), (h_p1_details, .inl (tc.1, 3, .inl c_p1_details))] (fX4_explain N c_rules_codes c_rules_count c_table_possible c_input_length c_stack c_depth c_index c_steps c_p1_codes c_p1_details c_p1_levels p2) (fun (u : (Nat → Int32) × (Nat → Int32) × Int32) => [(h_, .inr (4, [.ref h_rules, g_sets, .ref h_table, .ref h_input, g_synchronizing, g_trace, g_traceLength, g_tree, g_errorParts, g_errorCount, .ref h_stack, g_bringers, .int c_depth, .int c_index, .int c_steps])), (h_rules, .inr (6, [.ref h_rules_codes, .int c_rules_count])), (h_rules_codes, .inl (tc.1, 24, .inl c_rules_codes)), (h_table, .inr (8, [.ref h_rules, g_table_sets, g_table_select, .ref h_table_possible, g_table_lowest, g_table_conflicts])), (h_table_possible, .inl (tc.1, 72, .inl c_table_possible)), (h_input, .inr (3, [g_input_terminals, .int c_input_length])), (h_stack, .inl (tc.1, 65, .inl c_stack)), (h_p1, .inr (1, [.ref h_p1_codes, .ref h_p1_details, .int u.2.2])), (h_p1_codes, .inl (tc.1, 3, .inl u.1)), (h_p1_details, .inl (tc.1, 3, .inl u.2.1))]) := by
  refine ctV_of (lv0 := [(0, .ref h_), (1, .ref h_p1), (2, .int p2)]) (by decide +kernel) (Nat.le_of_ble_eq_true rfl) rfl (fun X C => ?_)
  unfold fX4_explain
  refine j_aload C d4_explain_0 1 rfl ?_
  refine j_const C d4_explain_1 ?_
  refine j_aload C d4_explain_2 0 rfl ?_
  refine j_get C d4_explain_3 fl4_93 0 rfl rfl ?_
  refine j_callVV3 (As := [.int 1, .int c_index]) C d4_explain_6 mv4_96 (kX1_begin _ _ tc h_p1 h_p1_codes h_p1_details c_p1_codes c_p1_details c_p1_levels 1 c_index) ⟨rfl, rfl, Nat.le_of_ble_eq_true rfl, Nat.le_of_ble_eq_true rfl⟩ rfl 7 rfl [7, 8, 9] rfl rfl rfl (Nat.le_of_ble_eq_true rfl) (fun o1 o2 o3 => [(h_, .inr (4, [.ref h_rules, g_sets, .ref h_table, .ref h_input, g_synchronizing, g_trace, g_traceLength, g_tree, g_errorParts, g_errorCount, .ref h_stack, g_bringers, .int c_depth, .int c_index, .int c_steps])), (h_rules, .inr (6, [.ref h_rules_codes, .int c_rules_count])), (h_rules_codes, .inl (tc.1, 24, .inl c_rules_codes)), (h_table, .inr (8, [.ref h_rules, g_table_sets, g_table_select, .ref h_table_possible, g_table_lowest, g_table_conflicts])), (h_table_possible, .inl (tc.1, 72, .inl c_table_possible)), (h_input, .inr (3, [g_input_terminals, .int c_input_length])), (h_stack, .inl (tc.1, 65, .inl c_stack)), (h_p1, .inr (1, [.ref h_p1_codes, .ref h_p1_details, .int o3])), (h_p1_codes, .inl (tc.1, 3, .inl o1)), (h_p1_details, .inl (tc.1, 3, .inl o2))]) [(false, 0), (false, 1), (false, 2), (false, 3), (false, 4), (false, 5), (false, 6), (true, 0), (true, 1), (true, 2)] (fun _ => rfl) (by decide +kernel) (fun o1 o2 o3 => ?_)
  refine j_iload C d4_explain_9 2 rfl ?_
  refine j_const C d4_explain_10 ?_
  refine j_join3 88 (fun v4 v5 v6 => [(h_, .inr (4, [.ref h_rules, g_sets, .ref h_table, .ref h_input, g_synchronizing, g_trace, g_traceLength, g_tree, g_errorParts, g_errorCount, .ref h_stack, g_bringers, .int c_depth, .int c_index, .int c_steps])), (h_rules, .inr (6, [.ref h_rules_codes, .int c_rules_count])), (h_rules_codes, .inl (tc.1, 24, .inl c_rules_codes)), (h_table, .inr (8, [.ref h_rules, g_table_sets, g_table_select, .ref h_table_possible, g_table_lowest, g_table_conflicts])), (h_table_possible, .inl (tc.1, 72, .inl c_table_possible)), (h_input, .inr (3, [g_input_terminals, .int c_input_length])), (h_stack, .inl (tc.1, 65, .inl c_stack)), (h_p1, .inr (1, [.ref h_p1_codes, .ref h_p1_details, .int v6])), (h_p1_codes, .inl (tc.1, 3, .inl v4)), (h_p1_details, .inl (tc.1, 3, .inl v5))]) (fun v4 v5 v6 => []) (fun v4 v5 v6 => []) (fun v4 v5 v6 => ?_) (fun k7 hk7 => ?_)
  · exact j_vret C d4_explain_88 rfl
  · refine j_icmp_ne C d4_explain_12 ?_ ?_
    · refine j_aload C d4_explain_28 0 rfl ?_
      refine j_get C d4_explain_29 fl4_82 0 rfl rfl ?_
      refine j_if_ne C d4_explain_32 ?_ ?_
      · refine j_aload C d4_explain_55 0 rfl ?_
        refine j_callVI0 (As := []) C d4_explain_56 mv4_68 (kX4_top _ _ tc h_ h_stack (.ref h_rules) g_sets (.ref h_table) (.ref h_input) g_synchronizing g_trace g_traceLength g_tree g_errorParts g_errorCount g_bringers (.int c_index) (.int c_steps) c_stack c_depth) ⟨rfl, rfl, Nat.le_of_ble_eq_true rfl, Nat.le_of_ble_eq_true rfl⟩ rfl 0 rfl [0, 6] rfl rfl rfl (Nat.le_of_ble_eq_true rfl) (fun x8 => ?_)
        refine j_const C d4_explain_59 ?_
        refine j_icmp_ge C d4_explain_61 ?_ ?_
        · refine j_aload C d4_explain_76 0 rfl ?_
          refine j_aload C d4_explain_77 1 rfl ?_
          refine j_aload C d4_explain_78 0 rfl ?_
          refine j_callVI0 (As := []) C d4_explain_79 mv4_68 (kX4_top _ _ tc h_ h_stack (.ref h_rules) g_sets (.ref h_table) (.ref h_input) g_synchronizing g_trace g_traceLength g_tree g_errorParts g_errorCount g_bringers (.int c_index) (.int c_steps) c_stack c_depth) ⟨rfl, rfl, Nat.le_of_ble_eq_true rfl, Nat.le_of_ble_eq_true rfl⟩ rfl 0 rfl [0, 6] rfl rfl rfl (Nat.le_of_ble_eq_true rfl) (fun x9 => ?_)
          refine j_const C d4_explain_82 ?_
          refine j_isub C d4_explain_84 ?_
          refine j_callVV3 (As := [.ref h_p1, .int (x9 - (10 : Int32))]) C d4_explain_85 mv4_107 (kX4_explainNoEntry _ _ tc N h_ h_rules h_rules_codes h_table h_table_possible h_p1 h_p1_codes h_p1_details g_sets (.ref h_input) g_synchronizing g_trace g_traceLength g_tree g_errorParts g_errorCount (.ref h_stack) g_bringers (.int c_depth) (.int c_index) (.int c_steps) g_table_sets g_table_select g_table_lowest g_table_conflicts c_rules_codes c_rules_count c_table_possible o1 o2 o3 (x9 - (10 : Int32))) ⟨rfl, rfl, Nat.le_of_ble_eq_true rfl, Nat.le_of_ble_eq_true rfl⟩ rfl 0 rfl [0, 1, 2, 3, 4, 7, 8, 9] rfl rfl rfl (Nat.le_of_ble_eq_true rfl) (fun o10 o11 o12 => [(h_, .inr (4, [.ref h_rules, g_sets, .ref h_table, .ref h_input, g_synchronizing, g_trace, g_traceLength, g_tree, g_errorParts, g_errorCount, .ref h_stack, g_bringers, .int c_depth, .int c_index, .int c_steps])), (h_rules, .inr (6, [.ref h_rules_codes, .int c_rules_count])), (h_rules_codes, .inl (tc.1, 24, .inl c_rules_codes)), (h_table, .inr (8, [.ref h_rules, g_table_sets, g_table_select, .ref h_table_possible, g_table_lowest, g_table_conflicts])), (h_table_possible, .inl (tc.1, 72, .inl c_table_possible)), (h_input, .inr (3, [g_input_terminals, .int c_input_length])), (h_stack, .inl (tc.1, 65, .inl c_stack)), (h_p1, .inr (1, [.ref h_p1_codes, .ref h_p1_details, .int o12])), (h_p1_codes, .inl (tc.1, 3, .inl o10)), (h_p1_details, .inl (tc.1, 3, .inl o11))]) [(true, 0), (true, 1), (true, 2), (true, 3), (true, 4), (false, 5), (false, 6), (true, 5), (true, 6), (true, 7)] (fun _ => rfl) (by decide +kernel) (fun o10 o11 o12 => ?_)
          exact j_sub [] rfl (hk7 _ _ _)
        · refine j_aload C d4_explain_64 1 rfl ?_
          refine j_const C d4_explain_65 ?_
          refine j_aload C d4_explain_66 0 rfl ?_
          refine j_callVI0 (As := []) C d4_explain_67 mv4_68 (kX4_top _ _ tc h_ h_stack (.ref h_rules) g_sets (.ref h_table) (.ref h_input) g_synchronizing g_trace g_traceLength g_tree g_errorParts g_errorCount g_bringers (.int c_index) (.int c_steps) c_stack c_depth) ⟨rfl, rfl, Nat.le_of_ble_eq_true rfl, Nat.le_of_ble_eq_true rfl⟩ rfl 0 rfl [0, 6] rfl rfl rfl (Nat.le_of_ble_eq_true rfl) (fun x13 => ?_)
          refine j_callVV3 (As := [.int 2, .int x13]) C d4_explain_70 mv4_99 (kX1_because _ _ tc h_p1 h_p1_codes h_p1_details o1 o2 o3 2 x13) ⟨rfl, rfl, Nat.le_of_ble_eq_true rfl, Nat.le_of_ble_eq_true rfl⟩ rfl 7 rfl [7, 8, 9] rfl rfl rfl (Nat.le_of_ble_eq_true rfl) (fun o14 o15 o16 => [(h_, .inr (4, [.ref h_rules, g_sets, .ref h_table, .ref h_input, g_synchronizing, g_trace, g_traceLength, g_tree, g_errorParts, g_errorCount, .ref h_stack, g_bringers, .int c_depth, .int c_index, .int c_steps])), (h_rules, .inr (6, [.ref h_rules_codes, .int c_rules_count])), (h_rules_codes, .inl (tc.1, 24, .inl c_rules_codes)), (h_table, .inr (8, [.ref h_rules, g_table_sets, g_table_select, .ref h_table_possible, g_table_lowest, g_table_conflicts])), (h_table_possible, .inl (tc.1, 72, .inl c_table_possible)), (h_input, .inr (3, [g_input_terminals, .int c_input_length])), (h_stack, .inl (tc.1, 65, .inl c_stack)), (h_p1, .inr (1, [.ref h_p1_codes, .ref h_p1_details, .int o16])), (h_p1_codes, .inl (tc.1, 3, .inl o14)), (h_p1_details, .inl (tc.1, 3, .inl o15))]) [(false, 0), (false, 1), (false, 2), (false, 3), (false, 4), (false, 5), (false, 6), (true, 0), (true, 1), (true, 2)] (fun _ => rfl) (by decide +kernel) (fun o14 o15 o16 => ?_)
          refine j_goto C d4_explain_73 ?_
          exact j_sub [] rfl (hk7 _ _ _)
      · refine j_aload C d4_explain_35 1 rfl ?_
        refine j_const C d4_explain_36 ?_
        refine j_aload C d4_explain_37 0 rfl ?_
        refine j_get C d4_explain_38 fl4_46 0 rfl rfl ?_
        refine j_get C d4_explain_41 fl4_102 5 rfl rfl ?_
        refine j_aload C d4_explain_44 0 rfl ?_
        refine j_get C d4_explain_45 fl4_93 0 rfl rfl ?_
        refine j_isub C d4_explain_48 ?_
        refine j_callVV3 (As := [.int 4, .int (c_input_length - c_index)]) C d4_explain_49 mv4_99 (kX1_because _ _ tc h_p1 h_p1_codes h_p1_details o1 o2 o3 4 (c_input_length - c_index)) ⟨rfl, rfl, Nat.le_of_ble_eq_true rfl, Nat.le_of_ble_eq_true rfl⟩ rfl 7 rfl [7, 8, 9] rfl rfl rfl (Nat.le_of_ble_eq_true rfl) (fun o17 o18 o19 => [(h_, .inr (4, [.ref h_rules, g_sets, .ref h_table, .ref h_input, g_synchronizing, g_trace, g_traceLength, g_tree, g_errorParts, g_errorCount, .ref h_stack, g_bringers, .int c_depth, .int c_index, .int c_steps])), (h_rules, .inr (6, [.ref h_rules_codes, .int c_rules_count])), (h_rules_codes, .inl (tc.1, 24, .inl c_rules_codes)), (h_table, .inr (8, [.ref h_rules, g_table_sets, g_table_select, .ref h_table_possible, g_table_lowest, g_table_conflicts])), (h_table_possible, .inl (tc.1, 72, .inl c_table_possible)), (h_input, .inr (3, [g_input_terminals, .int c_input_length])), (h_stack, .inl (tc.1, 65, .inl c_stack)), (h_p1, .inr (1, [.ref h_p1_codes, .ref h_p1_details, .int o19])), (h_p1_codes, .inl (tc.1, 3, .inl o17)), (h_p1_details, .inl (tc.1, 3, .inl o18))]) [(false, 0), (false, 1), (false, 2), (false, 3), (false, 4), (false, 5), (false, 6), (true, 0), (true, 1), (true, 2)] (fun _ => rfl) (by decide +kernel) (fun o17 o18 o19 => ?_)
        refine j_goto C d4_explain_52 ?_
        exact j_sub [] rfl (hk7 _ _ _)
    · refine j_aload C d4_explain_15 1 rfl ?_
      refine j_const C d4_explain_16 ?_
      refine j_aload C d4_explain_18 0 rfl ?_
      refine j_get C d4_explain_19 fl4_57 0 rfl rfl ?_
      refine j_callVV3 (As := [.int 7, .int c_steps]) C d4_explain_22 mv4_99 (kX1_because _ _ tc h_p1 h_p1_codes h_p1_details o1 o2 o3 7 c_steps) ⟨rfl, rfl, Nat.le_of_ble_eq_true rfl, Nat.le_of_ble_eq_true rfl⟩ rfl 7 rfl [7, 8, 9] rfl rfl rfl (Nat.le_of_ble_eq_true rfl) (fun o20 o21 o22 => [(h_, .inr (4, [.ref h_rules, g_sets, .ref h_table, .ref h_input, g_synchronizing, g_trace, g_traceLength, g_tree, g_errorParts, g_errorCount, .ref h_stack, g_bringers, .int c_depth, .int c_index, .int c_steps])), (h_rules, .inr (6, [.ref h_rules_codes, .int c_rules_count])), (h_rules_codes, .inl (tc.1, 24, .inl c_rules_codes)), (h_table, .inr (8, [.ref h_rules, g_table_sets, g_table_select, .ref h_table_possible, g_table_lowest, g_table_conflicts])), (h_table_possible, .inl (tc.1, 72, .inl c_table_possible)), (h_input, .inr (3, [g_input_terminals, .int c_input_length])), (h_stack, .inl (tc.1, 65, .inl c_stack)), (h_p1, .inr (1, [.ref h_p1_codes, .ref h_p1_details, .int o22])), (h_p1_codes, .inl (tc.1, 3, .inl o20)), (h_p1_details, .inl (tc.1, 3, .inl o21))]) [(false, 0), (false, 1), (false, 2), (false, 3), (false, 4), (false, 5), (false, 6), (true, 0), (true, 1), (true, 2)] (fun _ => rfl) (by decide +kernel) (fun o20 o21 o22 => ?_)
      refine j_goto C d4_explain_25 ?_
      exact j_sub [] rfl (hk7 _ _ _)

theorem d4_errorPart_0 : jdi cX4_errorPart 0 1 1 := Or.inl ⟨1, by decide +kernel⟩
theorem d4_errorPart_1 : jdb cX4_errorPart 1 (.ifCond .lt 24) 24 25 4 := by decide +kernel
theorem d4_errorPart_4 : jdi cX4_errorPart 4 1 5 := Or.inl ⟨1, by decide +kernel⟩
theorem d4_errorPart_5 : jda cX4_errorPart 5 0 6 := Or.inl ⟨0, by decide +kernel⟩
theorem d4_errorPart_6 : jd cX4_errorPart 6 (.getfield 85) 3 9 := by decide +kernel
theorem d4_errorPart_9 : jdb cX4_errorPart 9 (.if_icmp .ge 16) 16 25 12 := by decide +kernel
theorem d4_errorPart_12 : jda cX4_errorPart 12 0 13 := Or.inl ⟨0, by decide +kernel⟩
theorem d4_errorPart_13 : jd cX4_errorPart 13 (.getfield 25) 3 16 := by decide +kernel
theorem d4_errorPart_16 : jdi cX4_errorPart 16 1 17 := Or.inl ⟨1, by decide +kernel⟩
theorem d4_errorPart_17 : jdk cX4_errorPart 17 3 18 := Or.inl ⟨3, by decide +kernel⟩
theorem d4_errorPart_18 : jd cX4_errorPart 18 (.imul) 1 19 := by decide +kernel
theorem d4_errorPart_19 : jdi cX4_errorPart 19 2 20 := Or.inl ⟨2, by decide +kernel⟩
theorem d4_errorPart_20 : jd cX4_errorPart 20 (.iadd) 1 21 := by decide +kernel
theorem d4_errorPart_21 : jd cX4_errorPart 21 (.iaload) 1 22 := by decide +kernel
theorem d4_errorPart_22 : jdb cX4_errorPart 22 (.goto 5) 5 27 25 := by decide +kernel
theorem d4_errorPart_25 : jdk cX4_errorPart 25 (-2) 27 := Or.inr (Or.inl ⟨(-2), by decide +kernel⟩)
theorem d4_errorPart_27 : decode cX4_errorPart 27 = .ok (.ireturn, 1) := by decide +kernel
set_option maxHeartbeats 4000000 in
set_option maxRecDepth 100000 in
theorem kX4_errorPart (l : Launch) (D : va_G) (tc : jTC) (h_ h_errorParts : Nat) (g_rules g_sets g_table g_input g_synchronizing g_trace g_traceLength g_tree g_stack g_bringers g_depth g_index g_steps : Value) (c_errorParts : (Nat → Int32)) (c_errorCount : Int32) (p1 : Int32) (p2 : Int32) : ctI0 l D tc yX4_errorPart (Cond.code yX4_errorPart cX4_errorPart 3 (some .int) :: jtb) ({ frames := 0, cells := 0, slots := 0, locals := 0 } : Room) [.ref h_, .int p1, .int p2] [(h_, .inr (4, [g_rules, g_sets, g_table, g_input, g_synchronizing, g_trace, g_traceLength, g_tree, .ref h_errorParts, .int c_errorCount, g_stack, g_bringers, g_depth, g_index, g_steps])), (h_errorParts, .inl (tc.1, 900, .inl c_errorParts))] (fX4_errorPart c_errorParts c_errorCount p1 p2) := by
  refine ctI0_of (lv0 := [(0, .ref h_), (1, .int p1), (2, .int p2)]) (by decide +kernel) (Nat.le_of_ble_eq_true rfl) rfl (fun X C => ?_)
  unfold fX4_errorPart
  refine j_iload C d4_errorPart_0 1 rfl ?_
  refine j_join 27 (fun v1 => [(h_, .inr (4, [g_rules, g_sets, g_table, g_input, g_synchronizing, g_trace, g_traceLength, g_tree, .ref h_errorParts, .int c_errorCount, g_stack, g_bringers, g_depth, g_index, g_steps])), (h_errorParts, .inl (tc.1, 900, .inl c_errorParts))]) (fun v1 => []) (fun v1 => [.int v1]) (fun v1 => ?_) (fun k2 hk2 => ?_)
  · exact j_iret0 C d4_errorPart_27
  · refine j_join 25 (fun v3 => [(h_, .inr (4, [g_rules, g_sets, g_table, g_input, g_synchronizing, g_trace, g_traceLength, g_tree, .ref h_errorParts, .int c_errorCount, g_stack, g_bringers, g_depth, g_index, g_steps])), (h_errorParts, .inl (tc.1, 900, .inl c_errorParts))]) (fun v3 => []) (fun v3 => []) (fun v3 => ?_) (fun k4 hk4 => ?_)
    · refine j_const C d4_errorPart_25 ?_
      exact hk2 _
    · refine j_if_lt C d4_errorPart_1 ?_ ?_
      · exact j_sub [] rfl (hk4 _)
      · refine j_iload C d4_errorPart_4 1 rfl ?_
        refine j_aload C d4_errorPart_5 0 rfl ?_
        refine j_get C d4_errorPart_6 fl4_85 0 rfl rfl ?_
        refine j_icmp_ge C d4_errorPart_9 ?_ ?_
        · exact j_sub [] rfl (hk4 _)
        · refine j_aload C d4_errorPart_12 0 rfl ?_
          refine j_get C d4_errorPart_13 fl4_25 0 rfl rfl ?_
          refine j_iload C d4_errorPart_16 1 rfl ?_
          refine j_const C d4_errorPart_17 ?_
          refine j_imul C d4_errorPart_18 ?_
          refine j_iload C d4_errorPart_19 2 rfl ?_
          refine j_iadd C d4_errorPart_20 ?_
          refine j_iald C d4_errorPart_21 1 rfl (fun x5 => ?_)
          refine j_goto C d4_errorPart_22 ?_
          exact j_sub [] rfl (hk2 _)

theorem d5_wordOf_0 : jdi cX5_wordOf 0 0 1 := Or.inl ⟨0, by decide +kernel⟩
theorem d5_wordOf_1 : jdk cX5_wordOf 1 9 3 := Or.inr (Or.inl ⟨9, by decide +kernel⟩)
theorem d5_wordOf_3 : jd cX5_wordOf 3 (.imul) 1 4 := by decide +kernel
theorem d5_wordOf_4 : jdi cX5_wordOf 4 1 5 := Or.inl ⟨1, by decide +kernel⟩
theorem d5_wordOf_5 : jd cX5_wordOf 5 (.iadd) 1 6 := by decide +kernel
theorem d5_wordOf_6 : jdk cX5_wordOf 6 18 8 := Or.inr (Or.inl ⟨18, by decide +kernel⟩)
theorem d5_wordOf_8 : jd cX5_wordOf 8 (.imul) 1 9 := by decide +kernel
theorem d5_wordOf_9 : jdi cX5_wordOf 9 2 10 := Or.inl ⟨2, by decide +kernel⟩
theorem d5_wordOf_10 : jd cX5_wordOf 10 (.iadd) 1 11 := by decide +kernel
theorem d5_wordOf_11 : decode cX5_wordOf 11 = .ok (.ireturn, 1) := by decide +kernel
set_option maxHeartbeats 4000000 in
set_option maxRecDepth 100000 in
theorem kX5_wordOf (l : Launch) (D : va_G) (tc : jTC) (p0 : Int32) (p1 : Int32) (p2 : Int32) : ctI0 l D tc yX5_wordOf (Cond.code yX5_wordOf cX5_wordOf 3 (some .int) :: jtb) ({ frames := 0, cells := 0, slots := 0, locals := 0 } : Room) [.int p0, .int p1, .int p2] [] (fX5_wordOf p0 p1 p2) := by
  refine ctI0_of (lv0 := [(0, .int p0), (1, .int p1), (2, .int p2)]) (by decide +kernel) (Nat.le_of_ble_eq_true rfl) rfl (fun X C => ?_)
  unfold fX5_wordOf
  refine j_iload C d5_wordOf_0 0 rfl ?_
  refine j_const C d5_wordOf_1 ?_
  refine j_imul C d5_wordOf_3 ?_
  refine j_iload C d5_wordOf_4 1 rfl ?_
  refine j_iadd C d5_wordOf_5 ?_
  refine j_const C d5_wordOf_6 ?_
  refine j_imul C d5_wordOf_8 ?_
  refine j_iload C d5_wordOf_9 2 rfl ?_
  refine j_iadd C d5_wordOf_10 ?_
  exact j_iret0 C d5_wordOf_11

theorem d5_putTerminals_0 : jdk cX5_putTerminals 0 0 1 := Or.inl ⟨0, by decide +kernel⟩
theorem d5_putTerminals_1 : jds cX5_putTerminals 1 3 2 := Or.inl ⟨3, by decide +kernel⟩
theorem d5_putTerminals_2 : jdi cX5_putTerminals 2 3 3 := Or.inl ⟨3, by decide +kernel⟩
theorem d5_putTerminals_3 : jdk cX5_putTerminals 3 8 5 := Or.inr (Or.inl ⟨8, by decide +kernel⟩)
theorem d5_putTerminals_5 : jdb cX5_putTerminals 5 (.if_icmp .ge 69) 69 74 8 := by decide +kernel
theorem d5_putTerminals_8 : jdi cX5_putTerminals 8 1 9 := Or.inl ⟨1, by decide +kernel⟩
theorem d5_putTerminals_9 : jdi cX5_putTerminals 9 2 10 := Or.inl ⟨2, by decide +kernel⟩
theorem d5_putTerminals_10 : jdi cX5_putTerminals 10 3 11 := Or.inl ⟨3, by decide +kernel⟩
theorem d5_putTerminals_11 : jd cX5_putTerminals 11 (.invokestatic 48) 3 14 := by decide +kernel
theorem d5_putTerminals_14 : jds cX5_putTerminals 14 4 16 := Or.inr (by decide +kernel)
theorem d5_putTerminals_16 : jdi cX5_putTerminals 16 2 17 := Or.inl ⟨2, by decide +kernel⟩
theorem d5_putTerminals_17 : jdi cX5_putTerminals 17 1 18 := Or.inl ⟨1, by decide +kernel⟩
theorem d5_putTerminals_18 : jdb cX5_putTerminals 18 (.if_icmp .eq 22) 22 40 21 := by decide +kernel
theorem d5_putTerminals_21 : jdi cX5_putTerminals 21 2 22 := Or.inl ⟨2, by decide +kernel⟩
theorem d5_putTerminals_22 : jdi cX5_putTerminals 22 1 23 := Or.inl ⟨1, by decide +kernel⟩
theorem d5_putTerminals_23 : jdk cX5_putTerminals 23 1 24 := Or.inl ⟨1, by decide +kernel⟩
theorem d5_putTerminals_24 : jd cX5_putTerminals 24 (.iadd) 1 25 := by decide +kernel
theorem d5_putTerminals_25 : jdb cX5_putTerminals 25 (.if_icmp .ne 34) 34 59 28 := by decide +kernel
theorem d5_putTerminals_28 : jda cX5_putTerminals 28 0 29 := Or.inl ⟨0, by decide +kernel⟩
theorem d5_putTerminals_29 : jd cX5_putTerminals 29 (.getfield 28) 3 32 := by decide +kernel
theorem d5_putTerminals_32 : jdi cX5_putTerminals 32 1 33 := Or.inl ⟨1, by decide +kernel⟩
theorem d5_putTerminals_33 : jd cX5_putTerminals 33 (.invokevirtual 81) 3 36 := by decide +kernel
theorem d5_putTerminals_36 : jdi cX5_putTerminals 36 3 37 := Or.inl ⟨3, by decide +kernel⟩
theorem d5_putTerminals_37 : jdb cX5_putTerminals 37 (.if_icmp .ne 22) 22 59 40 := by decide +kernel
theorem d5_putTerminals_40 : jda cX5_putTerminals 40 0 41 := Or.inl ⟨0, by decide +kernel⟩
theorem d5_putTerminals_41 : jd cX5_putTerminals 41 (.getfield 20) 3 44 := by decide +kernel
theorem d5_putTerminals_44 : jdi cX5_putTerminals 44 4 46 := Or.inr (by decide +kernel)
theorem d5_putTerminals_46 : jdi cX5_putTerminals 46 3 47 := Or.inl ⟨3, by decide +kernel⟩
theorem d5_putTerminals_47 : jda cX5_putTerminals 47 0 48 := Or.inl ⟨0, by decide +kernel⟩
theorem d5_putTerminals_48 : jd cX5_putTerminals 48 (.getfield 11) 3 51 := by decide +kernel
theorem d5_putTerminals_51 : jdi cX5_putTerminals 51 3 52 := Or.inl ⟨3, by decide +kernel⟩
theorem d5_putTerminals_52 : jd cX5_putTerminals 52 (.iaload) 1 53 := by decide +kernel
theorem d5_putTerminals_53 : jd cX5_putTerminals 53 (.invokevirtual 84) 3 56 := by decide +kernel
theorem d5_putTerminals_56 : jdb cX5_putTerminals 56 (.goto 12) 12 68 59 := by decide +kernel
theorem d5_putTerminals_59 : jda cX5_putTerminals 59 0 60 := Or.inl ⟨0, by decide +kernel⟩
theorem d5_putTerminals_60 : jd cX5_putTerminals 60 (.getfield 20) 3 63 := by decide +kernel
theorem d5_putTerminals_63 : jdi cX5_putTerminals 63 4 65 := Or.inr (by decide +kernel)
theorem d5_putTerminals_65 : jd cX5_putTerminals 65 (.invokevirtual 66) 3 68 := by decide +kernel
theorem d5_putTerminals_68 : jd cX5_putTerminals 68 (.iinc 3 1) 3 71 := by decide +kernel
theorem d5_putTerminals_71 : jdb cX5_putTerminals 71 (.goto (-69)) (-69) 2 74 := by decide +kernel
theorem d5_putTerminals_74 : decode cX5_putTerminals 74 = .ok (.return_, 1) := by decide +kernel
set_option maxHeartbeats 4000000 in
set_option maxRecDepth 100000 in
theorem wX5_putTerminals_2 {X : jC} {tc : jTC} (C : jx X cX5_putTerminals 5 RX5 none tc ({ frames := 2, cells := 0, slots := 0, locals := 49 } : Room)) (h_ h_input h_input_terminals h_weights h_words h_words_costs h_words_highs h_words_lows : Nat) (g_rules : Value) (p1 : Int32) (p2 : Int32) (c_input_terminals : (Nat → Int32)) (c_input_length : Int32) (c_weights : (Nat → Int32)) (k4 : ((Nat → Int32) → (Nat → Int64) → (Nat → Int64) → Option ((Nat → Int32) × (Nat → Int64) × (Nat → Int64)))) (hk4 : ∀ (v28 : (Nat → Int32)) (v29 : (Nat → Int64)) (v30 : (Nat → Int64)), jo X 5 (0, 0) (jQV X (fun (u : (Nat → Int32) × (Nat → Int64) × (Nat → Int64)) => [(h_, .inr (5, [g_rules, .ref h_input, .ref h_weights, .ref h_words])), (h_input, .inr (3, [.ref h_input_terminals, .int c_input_length])), (h_input_terminals, .inl (tc.1, 40, .inl c_input_terminals)), (h_weights, .inl (tc.1, 8, .inl c_weights)), (h_words, .inr (10, [.ref h_words_costs, .ref h_words_highs, .ref h_words_lows])), (h_words_costs, .inl (tc.1, 1469, .inl u.1)), (h_words_highs, .inl (tc.2.1, 1469, .inr (.inl u.2.1))), (h_words_lows, .inl (tc.2.1, 1469, .inr (.inl u.2.2)))])) (k4 v28 v29 v30) [(h_, .inr (5, [g_rules, .ref h_input, .ref h_weights, .ref h_words])), (h_input, .inr (3, [.ref h_input_terminals, .int c_input_length])), (h_input_terminals, .inl (tc.1, 40, .inl c_input_terminals)), (h_weights, .inl (tc.1, 8, .inl c_weights)), (h_words, .inr (10, [.ref h_words_costs, .ref h_words_highs, .ref h_words_lows])), (h_words_costs, .inl (tc.1, 1469, .inl v28)), (h_words_highs, .inl (tc.2.1, 1469, .inr (.inl v29))), (h_words_lows, .inl (tc.2.1, 1469, .inr (.inl v30)))] 74 [] []) (rc9 : Int32 → (Nat → Int32) → (Nat → Int64) → (Nat → Int64) → Option ((Nat → Int32) × (Nat → Int64) × (Nat → Int64))) (hrc9 : ∀ (v5 : Int32) (v6 : (Nat → Int32)) (v7 : (Nat → Int64)) (v8 : (Nat → Int64)), jo X 5 (0, 0) (jQV X (fun (u : (Nat → Int32) × (Nat → Int64) × (Nat → Int64)) => [(h_, .inr (5, [g_rules, .ref h_input, .ref h_weights, .ref h_words])), (h_input, .inr (3, [.ref h_input_terminals, .int c_input_length])), (h_input_terminals, .inl (tc.1, 40, .inl c_input_terminals)), (h_weights, .inl (tc.1, 8, .inl c_weights)), (h_words, .inr (10, [.ref h_words_costs, .ref h_words_highs, .ref h_words_lows])), (h_words_costs, .inl (tc.1, 1469, .inl u.1)), (h_words_highs, .inl (tc.2.1, 1469, .inr (.inl u.2.1))), (h_words_lows, .inl (tc.2.1, 1469, .inr (.inl u.2.2)))])) (rc9 v5 v6 v7 v8) [(h_, .inr (5, [g_rules, .ref h_input, .ref h_weights, .ref h_words])), (h_input, .inr (3, [.ref h_input_terminals, .int c_input_length])), (h_input_terminals, .inl (tc.1, 40, .inl c_input_terminals)), (h_weights, .inl (tc.1, 8, .inl c_weights)), (h_words, .inr (10, [.ref h_words_costs, .ref h_words_highs, .ref h_words_lows])), (h_words_costs, .inl (tc.1, 1469, .inl v6)), (h_words_highs, .inl (tc.2.1, 1469, .inr (.inl v7))), (h_words_lows, .inl (tc.2.1, 1469, .inr (.inl v8)))] 2 [(0, .ref h_), (1, .int p1), (2, .int p2), (3, .int v5)] []) (v5 : Int32) (v6 : (Nat → Int32)) (v7 : (Nat → Int64)) (v8 : (Nat → Int64)) : jo X 5 (0, 0) (jQV X (fun (u : (Nat → Int32) × (Nat → Int64) × (Nat → Int64)) => [(h_, .inr (5, [g_rules, .ref h_input, .ref h_weights, .ref h_words])), (h_input, .inr (3, [.ref h_input_terminals, .int c_input_length])), (h_input_terminals, .inl (tc.1, 40, .inl c_input_terminals)), (h_weights, .inl (tc.1, 8, .inl c_weights)), (h_words, .inr (10, [.ref h_words_costs, .ref h_words_highs, .ref h_words_lows])), (h_words_costs, .inl (tc.1, 1469, .inl u.1)), (h_words_highs, .inl (tc.2.1, 1469, .inr (.inl u.2.1))), (h_words_lows, .inl (tc.2.1, 1469, .inr (.inl u.2.2)))])) (bX5_putTerminals_2 p1 p2 c_input_terminals c_input_length c_weights k4 rc9 v5 v6 v7 v8) [(h_, .inr (5, [g_rules, .ref h_input, .ref h_weights, .ref h_words])), (h_input, .inr (3, [.ref h_input_terminals, .int c_input_length])), (h_input_terminals, .inl (tc.1, 40, .inl c_input_terminals)), (h_weights, .inl (tc.1, 8, .inl c_weights)), (h_words, .inr (10, [.ref h_words_costs, .ref h_words_highs, .ref h_words_lows])), (h_words_costs, .inl (tc.1, 1469, .inl v6)), (h_words_highs, .inl (tc.2.1, 1469, .inr (.inl v7))), (h_words_lows, .inl (tc.2.1, 1469, .inr (.inl v8)))] 2 [(0, .ref h_), (1, .int p1), (2, .int p2), (3, .int v5)] [] := by
  unfold bX5_putTerminals_2
  refine j_iload C d5_putTerminals_2 3 rfl ?_
  refine j_const C d5_putTerminals_3 ?_
  refine j_icmp_ge C d5_putTerminals_5 ?_ ?_
  · exact j_sub [] rfl (hk4 _ _ _)
  · refine j_iload C d5_putTerminals_8 1 rfl ?_
    refine j_iload C d5_putTerminals_9 2 rfl ?_
    refine j_iload C d5_putTerminals_10 3 rfl ?_
    refine j_callSI0 (As := [.int p1, .int p2, .int v5]) C d5_putTerminals_11 ms5_48 (kX5_wordOf _ _ tc p1 p2 v5) ⟨rfl, rfl, Nat.le_of_ble_eq_true rfl, Nat.le_of_ble_eq_true rfl⟩ rfl [] rfl rfl rfl (Nat.le_of_ble_eq_true rfl) (fun x10 => ?_)
    refine j_istore C d5_putTerminals_14 (by decide) (lv' := [(4, .int x10), (0, .ref h_), (1, .int p1), (2, .int p2), (3, .int v5)]) rfl ?_
    refine j_iload C d5_putTerminals_16 3 rfl ?_
    refine j_iload C d5_putTerminals_17 2 rfl ?_
    refine j_join3 68 (fun v11 v12 v13 => [(h_, .inr (5, [g_rules, .ref h_input, .ref h_weights, .ref h_words])), (h_input, .inr (3, [.ref h_input_terminals, .int c_input_length])), (h_input_terminals, .inl (tc.1, 40, .inl c_input_terminals)), (h_weights, .inl (tc.1, 8, .inl c_weights)), (h_words, .inr (10, [.ref h_words_costs, .ref h_words_highs, .ref h_words_lows])), (h_words_costs, .inl (tc.1, 1469, .inl v11)), (h_words_highs, .inl (tc.2.1, 1469, .inr (.inl v12))), (h_words_lows, .inl (tc.2.1, 1469, .inr (.inl v13)))]) (fun v11 v12 v13 => [(0, .ref h_), (1, .int p1), (2, .int p2), (3, .int v5)]) (fun v11 v12 v13 => []) (fun v11 v12 v13 => ?_) (fun k15 hk15 => ?_)
    · refine j_iincN C (fun x14 => [(3, .int x14), (0, .ref h_), (1, .int p1), (2, .int p2)]) d5_putTerminals_68 3 rfl (by decide +kernel) (by decide) (fun _ => rfl) (fun x14 => ?_)
      refine j_goto C d5_putTerminals_71 ?_
      exact j_sub [1, 2, 3, 0] rfl (hrc9 _ _ _ _)
    · refine j_join 40 (fun v16 => [(h_, .inr (5, [g_rules, .ref h_input, .ref h_weights, .ref h_words])), (h_input, .inr (3, [.ref h_input_terminals, .int c_input_length])), (h_input_terminals, .inl (tc.1, 40, .inl c_input_terminals)), (h_weights, .inl (tc.1, 8, .inl c_weights)), (h_words, .inr (10, [.ref h_words_costs, .ref h_words_highs, .ref h_words_lows])), (h_words_costs, .inl (tc.1, 1469, .inl v6)), (h_words_highs, .inl (tc.2.1, 1469, .inr (.inl v7))), (h_words_lows, .inl (tc.2.1, 1469, .inr (.inl v8)))]) (fun v16 => [(0, .ref h_), (1, .int p1), (2, .int p2), (3, .int v5), (4, .int x10)]) (fun v16 => []) (fun v16 => ?_) (fun k21 hk21 => ?_)
      · refine j_aload C d5_putTerminals_40 0 rfl ?_
        refine j_get C d5_putTerminals_41 fl5_20 0 rfl rfl ?_
        refine j_iload C d5_putTerminals_44 4 rfl ?_
        refine j_iload C d5_putTerminals_46 3 rfl ?_
        refine j_aload C d5_putTerminals_47 0 rfl ?_
        refine j_get C d5_putTerminals_48 fl5_11 0 rfl rfl ?_
        refine j_iload C d5_putTerminals_51 3 rfl ?_
        refine j_iald C d5_putTerminals_52 3 rfl (fun x17 => ?_)
        refine j_callVV3 (As := [.int x10, .int v5, .int x17]) C d5_putTerminals_53 mv5_84 (kX10_putTerminal _ _ tc 1469 h_words h_words_costs h_words_highs h_words_lows v6 v7 v8 x10 v5 x17) ⟨rfl, rfl, Nat.le_of_ble_eq_true rfl, Nat.le_of_ble_eq_true rfl⟩ rfl 4 rfl [4, 5, 6, 7] rfl rfl rfl (Nat.le_of_ble_eq_true rfl) (fun o18 o19 o20 => [(h_, .inr (5, [g_rules, .ref h_input, .ref h_weights, .ref h_words])), (h_input, .inr (3, [.ref h_input_terminals, .int c_input_length])), (h_input_terminals, .inl (tc.1, 40, .inl c_input_terminals)), (h_weights, .inl (tc.1, 8, .inl c_weights)), (h_words, .inr (10, [.ref h_words_costs, .ref h_words_highs, .ref h_words_lows])), (h_words_costs, .inl (tc.1, 1469, .inl o18)), (h_words_highs, .inl (tc.2.1, 1469, .inr (.inl o19))), (h_words_lows, .inl (tc.2.1, 1469, .inr (.inl o20)))]) [(false, 0), (false, 1), (false, 2), (false, 3), (true, 0), (true, 1), (true, 2), (true, 3)] (fun _ => rfl) (by decide +kernel) (fun o18 o19 o20 => ?_)
        refine j_goto C d5_putTerminals_56 ?_
        exact j_sub [0, 1, 2, 3] rfl (hk15 _ _ _)
      · refine j_icmp_eq C d5_putTerminals_18 ?_ ?_
        · exact j_sub [1, 2, 3, 4, 0] rfl (hk21 _)
        · refine j_iload C d5_putTerminals_21 3 rfl ?_
          refine j_iload C d5_putTerminals_22 2 rfl ?_
          refine j_const C d5_putTerminals_23 ?_
          refine j_iadd C d5_putTerminals_24 ?_
          refine j_join 59 (fun v22 => [(h_, .inr (5, [g_rules, .ref h_input, .ref h_weights, .ref h_words])), (h_input, .inr (3, [.ref h_input_terminals, .int c_input_length])), (h_input_terminals, .inl (tc.1, 40, .inl c_input_terminals)), (h_weights, .inl (tc.1, 8, .inl c_weights)), (h_words, .inr (10, [.ref h_words_costs, .ref h_words_highs, .ref h_words_lows])), (h_words_costs, .inl (tc.1, 1469, .inl v6)), (h_words_highs, .inl (tc.2.1, 1469, .inr (.inl v7))), (h_words_lows, .inl (tc.2.1, 1469, .inr (.inl v8)))]) (fun v22 => [(0, .ref h_), (1, .int p1), (2, .int p2), (3, .int v5), (4, .int x10)]) (fun v22 => []) (fun v22 => ?_) (fun k26 hk26 => ?_)
          · refine j_aload C d5_putTerminals_59 0 rfl ?_
            refine j_get C d5_putTerminals_60 fl5_20 0 rfl rfl ?_
            refine j_iload C d5_putTerminals_63 4 rfl ?_
            refine j_callVV3 (As := [.int x10]) C d5_putTerminals_65 mv5_66 (kX10_putNone _ _ tc 1469 h_words h_words_costs h_words_highs h_words_lows v6 v7 v8 x10) ⟨rfl, rfl, Nat.le_of_ble_eq_true rfl, Nat.le_of_ble_eq_true rfl⟩ rfl 4 rfl [4, 5, 6, 7] rfl rfl rfl (Nat.le_of_ble_eq_true rfl) (fun o23 o24 o25 => [(h_, .inr (5, [g_rules, .ref h_input, .ref h_weights, .ref h_words])), (h_input, .inr (3, [.ref h_input_terminals, .int c_input_length])), (h_input_terminals, .inl (tc.1, 40, .inl c_input_terminals)), (h_weights, .inl (tc.1, 8, .inl c_weights)), (h_words, .inr (10, [.ref h_words_costs, .ref h_words_highs, .ref h_words_lows])), (h_words_costs, .inl (tc.1, 1469, .inl o23)), (h_words_highs, .inl (tc.2.1, 1469, .inr (.inl o24))), (h_words_lows, .inl (tc.2.1, 1469, .inr (.inl o25)))]) [(false, 0), (false, 1), (false, 2), (false, 3), (true, 0), (true, 1), (true, 2), (true, 3)] (fun _ => rfl) (by decide +kernel) (fun o23 o24 o25 => ?_)
            exact j_sub [0, 1, 2, 3] rfl (hk15 _ _ _)
          · refine j_icmp_ne C d5_putTerminals_25 ?_ ?_
            · exact j_sub [1, 2, 3, 4, 0] rfl (hk26 _)
            · refine j_aload C d5_putTerminals_28 1 rfl ?_
              refine j_get C d5_putTerminals_29 fl5_28 0 rfl rfl ?_
              refine j_iload C d5_putTerminals_32 2 rfl ?_
              refine j_callVI0 (As := [.int p1]) C d5_putTerminals_33 mv5_81 (kX3_tokenAt _ _ tc h_input h_input_terminals c_input_terminals c_input_length p1) ⟨rfl, rfl, Nat.le_of_ble_eq_true rfl, Nat.le_of_ble_eq_true rfl⟩ rfl 1 rfl [1, 2] rfl rfl rfl (Nat.le_of_ble_eq_true rfl) (fun x27 => ?_)
              refine j_iload C d5_putTerminals_36 4 rfl ?_
              refine j_icmp_ne C d5_putTerminals_37 ?_ ?_
              · exact j_sub [1, 2, 3, 4, 0] rfl (hk26 _)
              · exact j_sub [1, 2, 3, 4, 0] rfl (hk21 _)

set_option maxHeartbeats 4000000 in
set_option maxRecDepth 100000 in
theorem kX5_putTerminals (l : Launch) (D : va_G) (tc : jTC) (N : Nat) (h_ h_input h_input_terminals h_weights h_words h_words_costs h_words_highs h_words_lows : Nat) (g_rules : Value) (c_input_terminals : (Nat → Int32)) (c_input_length : Int32) (c_weights : (Nat → Int32)) (c_words_costs : (Nat → Int32)) (c_words_highs : (Nat → Int64)) (c_words_lows : (Nat → Int64)) (p1 : Int32) (p2 : Int32) : ctV l D tc yX5_putTerminals (Cond.code yX5_putTerminals cX5_putTerminals 5 none :: jtb) ({ frames := 2, cells := 0, slots := 0, locals := 49 } : Room) [.ref h_, .int p1, .int p2] [(h_, .inr (5, [g_rules, .ref h_input, .ref h_weights, .ref h_words])), (h_input, .inr (3, [.ref h_input_terminals, .int c_input_length])), (h_input_terminals, .inl (tc.1, 40, .inl c_input_terminals)), (h_weights, .inl (tc.1, 8, .inl c_weights)), (h_words, .inr (10, [.ref h_words_costs, .ref h_words_highs, .ref h_words_lows])), (h_words_costs, .inl (tc.1, 1469, .inl c_words_costs)), (h_words_highs, .inl (tc.2.1, 1469, .inr (.inl c_words_highs))), (h_words_lows, .inl (tc.2.1, 1469, .inr (.inl c_words_lows)))] (fX5_putTerminals N c_input_terminals c_input_length c_weights c_words_costs c_words_highs c_words_lows p1 p2) (fun (u : (Nat → Int32) × (Nat → Int64) × (Nat → Int64)) => [(h_, .inr (5, [g_rules, .ref h_input, .ref h_weights, .ref h_words])), (h_input, .inr (3, [.ref h_input_terminals, .int c_input_length])), (h_input_terminals, .inl (tc.1, 40, .inl c_input_terminals)), (h_weights, .inl (tc.1, 8, .inl c_weights)), (h_words, .inr (10, [.ref h_words_costs, .ref h_words_highs, .ref h_words_lows])), (h_words_costs, .inl (tc.1, 1469, .inl u.1)), (h_words_highs, .inl (tc.2.1, 1469, .inr (.inl u.2.1))), (h_words_lows, .inl (tc.2.1, 1469, .inr (.inl u.2.2)))]) := by
  refine ctV_of (lv0 := [(0, .ref h_), (1, .int p1), (2, .int p2)]) (by decide +kernel) (Nat.le_of_ble_eq_true rfl) rfl (fun X C => ?_)
  unfold fX5_putTerminals
  refine j_const C d5_putTerminals_0 ?_
  refine j_istore C d5_putTerminals_1 (by decide) (lv' := [(3, .int 0), (0, .ref h_), (1, .int p1), (2, .int p2)]) rfl ?_
  refine j_join3 74 (fun v1 v2 v3 => [(h_, .inr (5, [g_rules, .ref h_input, .ref h_weights, .ref h_words])), (h_input, .inr (3, [.ref h_input_terminals, .int c_input_length])), (h_input_terminals, .inl (tc.1, 40, .inl c_input_terminals)), (h_weights, .inl (tc.1, 8, .inl c_weights)), (h_words, .inr (10, [.ref h_words_costs, .ref h_words_highs, .ref h_words_lows])), (h_words_costs, .inl (tc.1, 1469, .inl v1)), (h_words_highs, .inl (tc.2.1, 1469, .inr (.inl v2))), (h_words_lows, .inl (tc.2.1, 1469, .inr (.inl v3)))]) (fun v1 v2 v3 => []) (fun v1 v2 v3 => []) (fun v1 v2 v3 => ?_) (fun k4 hk4 => ?_)
  · exact j_vret C d5_putTerminals_74 rfl
  · exact j_sub [1, 2, 3, 0] rfl (j_loop4 (fun v5 v6 v7 v8 => [(h_, .inr (5, [g_rules, .ref h_input, .ref h_weights, .ref h_words])), (h_input, .inr (3, [.ref h_input_terminals, .int c_input_length])), (h_input_terminals, .inl (tc.1, 40, .inl c_input_terminals)), (h_weights, .inl (tc.1, 8, .inl c_weights)), (h_words, .inr (10, [.ref h_words_costs, .ref h_words_highs, .ref h_words_lows])), (h_words_costs, .inl (tc.1, 1469, .inl v6)), (h_words_highs, .inl (tc.2.1, 1469, .inr (.inl v7))), (h_words_lows, .inl (tc.2.1, 1469, .inr (.inl v8)))]) (fun v5 v6 v7 v8 => [(0, .ref h_), (1, .int p1), (2, .int p2), (3, .int v5)]) (fun rc9 hrc9 v5 v6 v7 v8 => wX5_putTerminals_2 C h_ h_input h_input_terminals h_weights h_words h_words_costs h_words_highs h_words_lows g_rules p1 p2 c_input_terminals c_input_length c_weights k4 hk4 rc9 hrc9 v5 v6 v7 v8) N _ _ _ _)

theorem d10_lowerToJoined_0 : jda cX10_lowerToJoined 0 0 1 := Or.inl ⟨0, by decide +kernel⟩
theorem d10_lowerToJoined_1 : jd cX10_lowerToJoined 1 (.getfield 17) 3 4 := by decide +kernel
theorem d10_lowerToJoined_4 : jdi cX10_lowerToJoined 4 2 5 := Or.inl ⟨2, by decide +kernel⟩
theorem d10_lowerToJoined_5 : jd cX10_lowerToJoined 5 (.iaload) 1 6 := by decide +kernel
theorem d10_lowerToJoined_6 : jda cX10_lowerToJoined 6 0 7 := Or.inl ⟨0, by decide +kernel⟩
theorem d10_lowerToJoined_7 : jd cX10_lowerToJoined 7 (.getfield 17) 3 10 := by decide +kernel
theorem d10_lowerToJoined_10 : jdi cX10_lowerToJoined 10 3 11 := Or.inl ⟨3, by decide +kernel⟩
theorem d10_lowerToJoined_11 : jd cX10_lowerToJoined 11 (.iaload) 1 12 := by decide +kernel
theorem d10_lowerToJoined_12 : jd cX10_lowerToJoined 12 (.iadd) 1 13 := by decide +kernel
theorem d10_lowerToJoined_13 : jds cX10_lowerToJoined 13 4 15 := Or.inr (by decide +kernel)
theorem d10_lowerToJoined_15 : jdi cX10_lowerToJoined 15 4 17 := Or.inr (by decide +kernel)
theorem d10_lowerToJoined_17 : jd cX10_lowerToJoined 17 (.ldc 28) 2 19 := by decide +kernel
theorem d10_lowerToJoined_19 : jdb cX10_lowerToJoined 19 (.if_icmp .ge 14) 14 33 22 := by decide +kernel
theorem d10_lowerToJoined_22 : jdi cX10_lowerToJoined 22 4 24 := Or.inr (by decide +kernel)
theorem d10_lowerToJoined_24 : jda cX10_lowerToJoined 24 0 25 := Or.inl ⟨0, by decide +kernel⟩
theorem d10_lowerToJoined_25 : jd cX10_lowerToJoined 25 (.getfield 17) 3 28 := by decide +kernel
theorem d10_lowerToJoined_28 : jdi cX10_lowerToJoined 28 1 29 := Or.inl ⟨1, by decide +kernel⟩
theorem d10_lowerToJoined_29 : jd cX10_lowerToJoined 29 (.iaload) 1 30 := by decide +kernel
theorem d10_lowerToJoined_30 : jdb cX10_lowerToJoined 30 (.if_icmp .le 4) 4 34 33 := by decide +kernel
theorem d10_lowerToJoined_33 : decode cX10_lowerToJoined 33 = .ok (.return_, 1) := by decide +kernel
theorem d10_lowerToJoined_34 : jda cX10_lowerToJoined 34 0 35 := Or.inl ⟨0, by decide +kernel⟩
theorem d10_lowerToJoined_35 : jdi cX10_lowerToJoined 35 2 36 := Or.inl ⟨2, by decide +kernel⟩
theorem d10_lowerToJoined_36 : jdi cX10_lowerToJoined 36 3 37 := Or.inl ⟨3, by decide +kernel⟩
theorem d10_lowerToJoined_37 : jd cX10_lowerToJoined 37 (.invokevirtual 43) 3 40 := by decide +kernel
theorem d10_lowerToJoined_40 : jd cX10_lowerToJoined 40 (.lstore 5) 2 42 := by decide +kernel
theorem d10_lowerToJoined_42 : jda cX10_lowerToJoined 42 0 43 := Or.inl ⟨0, by decide +kernel⟩
theorem d10_lowerToJoined_43 : jdi cX10_lowerToJoined 43 2 44 := Or.inl ⟨2, by decide +kernel⟩
theorem d10_lowerToJoined_44 : jdi cX10_lowerToJoined 44 3 45 := Or.inl ⟨3, by decide +kernel⟩
theorem d10_lowerToJoined_45 : jd cX10_lowerToJoined 45 (.invokevirtual 47) 3 48 := by decide +kernel
theorem d10_lowerToJoined_48 : jd cX10_lowerToJoined 48 (.lstore 7) 2 50 := by decide +kernel
theorem d10_lowerToJoined_50 : jda cX10_lowerToJoined 50 0 51 := Or.inl ⟨0, by decide +kernel⟩
theorem d10_lowerToJoined_51 : jdi cX10_lowerToJoined 51 1 52 := Or.inl ⟨1, by decide +kernel⟩
theorem d10_lowerToJoined_52 : jdi cX10_lowerToJoined 52 4 54 := Or.inr (by decide +kernel)
theorem d10_lowerToJoined_54 : jdl cX10_lowerToJoined 54 5 56 := Or.inr (by decide +kernel)
theorem d10_lowerToJoined_56 : jdl cX10_lowerToJoined 56 7 58 := Or.inr (by decide +kernel)
theorem d10_lowerToJoined_58 : jd cX10_lowerToJoined 58 (.invokevirtual 50) 3 61 := by decide +kernel
theorem d10_lowerToJoined_61 : jdb cX10_lowerToJoined 61 (.ifCond .eq 14) 14 75 64 := by decide +kernel
theorem d10_lowerToJoined_64 : jda cX10_lowerToJoined 64 0 65 := Or.inl ⟨0, by decide +kernel⟩
theorem d10_lowerToJoined_65 : jdi cX10_lowerToJoined 65 1 66 := Or.inl ⟨1, by decide +kernel⟩
theorem d10_lowerToJoined_66 : jdi cX10_lowerToJoined 66 4 68 := Or.inr (by decide +kernel)
theorem d10_lowerToJoined_68 : jdl cX10_lowerToJoined 68 5 70 := Or.inr (by decide +kernel)
theorem d10_lowerToJoined_70 : jdl cX10_lowerToJoined 70 7 72 := Or.inr (by decide +kernel)
theorem d10_lowerToJoined_72 : jd cX10_lowerToJoined 72 (.invokevirtual 37) 3 75 := by decide +kernel
theorem d10_lowerToJoined_75 : decode cX10_lowerToJoined 75 = .ok (.return_, 1) := by decide +kernel
set_option maxHeartbeats 4000000 in
set_option maxRecDepth 100000 in
theorem kX10_lowerToJoined (l : Launch) (D : va_G) (tc : jTC) (n : Nat) (h_ h_costs h_highs h_lows : Nat) (c_costs : (Nat → Int32)) (c_highs : (Nat → Int64)) (c_lows : (Nat → Int64)) (p1 : Int32) (p2 : Int32) (p3 : Int32) : ctV l D tc yX10_lowerToJoined (Cond.code yX10_lowerToJoined cX10_lowerToJoined 9 none :: jtb) ({ frames := 1, cells := 0, slots := 0, locals := 26 } : Room) [.ref h_, .int p1, .int p2, .int p3] [(h_, .inr (10, [.ref h_costs, .ref h_highs, .ref h_lows])), (h_costs, .inl (tc.1, n, .inl c_costs)), (h_highs, .inl (tc.2.1, n, .inr (.inl c_highs))), (h_lows, .inl (tc.2.1, n, .inr (.inl c_lows)))] (fX10_lowerToJoined n c_costs c_highs c_lows p1 p2 p3) (fun (u : (Nat → Int32) × (Nat → Int64) × (Nat → Int64)) => [(h_, .inr (10, [.ref h_costs, .ref h_highs, .ref h_lows])), (h_costs, .inl (tc.1, n, .inl u.1)), (h_highs, .inl (tc.2.1, n, .inr (.inl u.2.1))), (h_lows, .inl (tc.2.1, n, .inr (.inl u.2.2)))]) := by
  refine ctV_of (lv0 := [(0, .ref h_), (1, .int p1), (2, .int p2), (3, .int p3)]) (by decide +kernel) (Nat.le_of_ble_eq_true rfl) rfl (fun X C => ?_)
  unfold fX10_lowerToJoined
  refine j_aload C d10_lowerToJoined_0 0 rfl ?_
  refine j_get C d10_lowerToJoined_1 fl10_17 0 rfl rfl ?_
  refine j_iload C d10_lowerToJoined_4 2 rfl ?_
  refine j_iald C d10_lowerToJoined_5 1 rfl (fun x1 => ?_)
  refine j_aload C d10_lowerToJoined_6 0 rfl ?_
  refine j_get C d10_lowerToJoined_7 fl10_17 0 rfl rfl ?_
  refine j_iload C d10_lowerToJoined_10 3 rfl ?_
  refine j_iald C d10_lowerToJoined_11 1 rfl (fun x2 => ?_)
  refine j_iadd C d10_lowerToJoined_12 ?_
  refine j_leti (fun x3 => ?_)
  refine j_istore C d10_lowerToJoined_13 (by decide) (lv' := [(4, .int x3), (0, .ref h_), (1, .int p1), (2, .int p2), (3, .int p3)]) rfl ?_
  refine j_iload C d10_lowerToJoined_15 0 rfl ?_
  refine j_ldc C d10_lowerToJoined_17 kc10_28 ?_
  refine j_join 33 (fun v4 => [(h_, .inr (10, [.ref h_costs, .ref h_highs, .ref h_lows])), (h_costs, .inl (tc.1, n, .inl c_costs)), (h_highs, .inl (tc.2.1, n, .inr (.inl c_highs))), (h_lows, .inl (tc.2.1, n, .inr (.inl c_lows)))]) (fun v4 => []) (fun v4 => []) (fun v4 => ?_) (fun k5 hk5 => ?_)
  · exact j_vret C d10_lowerToJoined_33 rfl
  · refine j_icmp_ge C d10_lowerToJoined_19 ?_ ?_
    · exact j_sub [] rfl (hk5 _)
    · refine j_iload C d10_lowerToJoined_22 0 rfl ?_
      refine j_aload C d10_lowerToJoined_24 1 rfl ?_
      refine j_get C d10_lowerToJoined_25 fl10_17 0 rfl rfl ?_
      refine j_iload C d10_lowerToJoined_28 2 rfl ?_
      refine j_iald C d10_lowerToJoined_29 1 rfl (fun x6 => ?_)
      refine j_icmp_le C d10_lowerToJoined_30 ?_ ?_
      · refine j_aload C d10_lowerToJoined_34 1 rfl ?_
        refine j_iload C d10_lowerToJoined_35 3 rfl ?_
        refine j_iload C d10_lowerToJoined_36 4 rfl ?_
        refine j_callVL0 (As := [.int p2, .int p3]) C d10_lowerToJoined_37 mv10_43 (kX10_joinedHigh _ _ tc n h_ h_costs h_highs h_lows c_costs c_highs c_lows p2 p3) ⟨rfl, rfl, Nat.le_of_ble_eq_true rfl, Nat.le_of_ble_eq_true rfl⟩ rfl 0 rfl [0, 1, 2, 3] rfl rfl rfl (Nat.le_of_ble_eq_true rfl) (fun x7 => ?_)
        refine j_lstore C d10_lowerToJoined_40 (by decide) (lv' := [(5, .long x7), (4, .int x3), (0, .ref h_), (1, .int p1), (2, .int p2), (3, .int p3)]) rfl ?_
        refine j_aload C d10_lowerToJoined_42 2 rfl ?_
        refine j_iload C d10_lowerToJoined_43 4 rfl ?_
        refine j_iload C d10_lowerToJoined_44 5 rfl ?_
        refine j_callVL0 (As := [.int p2, .int p3]) C d10_lowerToJoined_45 mv10_47 (kX10_joinedLow _ _ tc n h_ h_costs h_lows (.ref h_highs) c_costs c_lows p2 p3) ⟨rfl, rfl, Nat.le_of_ble_eq_true rfl, Nat.le_of_ble_eq_true rfl⟩ rfl 0 rfl [0, 1, 3] rfl rfl rfl (Nat.le_of_ble_eq_true rfl) (fun x8 => ?_)
        refine j_lstore C d10_lowerToJoined_48 (by decide) (lv' := [(7, .long x8), (5, .long x7), (4, .int x3), (0, .ref h_), (1, .int p1), (2, .int p2), (3, .int p3)]) rfl ?_
        refine j_aload C d10_lowerToJoined_50 3 rfl ?_
        refine j_iload C d10_lowerToJoined_51 4 rfl ?_
        refine j_iload C d10_lowerToJoined_52 2 rfl ?_
        refine j_lload C d10_lowerToJoined_54 1 rfl ?_
        refine j_lload C d10_lowerToJoined_56 0 rfl ?_
        refine j_callVI0 (As := [.int p1, .int x3, .long x7, .long x8]) C d10_lowerToJoined_58 mv10_50 (kX10_isLess _ _ tc n h_ h_costs h_highs h_lows c_costs c_highs c_lows p1 x3 x7 x8) ⟨rfl, rfl, Nat.le_of_ble_eq_true rfl, Nat.le_of_ble_eq_true rfl⟩ rfl 0 rfl [0, 1, 2, 3] rfl rfl rfl (Nat.le_of_ble_eq_true rfl) (fun x9 => ?_)
        refine j_join3 75 (fun v10 v11 v12 => [(h_, .inr (10, [.ref h_costs, .ref h_highs, .ref h_lows])), (h_costs, .inl (tc.1, n, .inl v10)), (h_highs, .inl (tc.2.1, n, .inr (.inl v11))), (h_lows, .inl (tc.2.1, n, .inr (.inl v12)))]) (fun v10 v11 v12 => []) (fun v10 v11 v12 => []) (fun v10 v11 v12 => ?_) (fun k13 hk13 => ?_)
        · exact j_vret C d10_lowerToJoined_75 rfl
        · refine j_if_eq C d10_lowerToJoined_61 ?_ ?_
          · exact j_sub [] rfl (hk13 _ _ _)
          · refine j_aload C d10_lowerToJoined_64 3 rfl ?_
            refine j_iload C d10_lowerToJoined_65 4 rfl ?_
            refine j_iload C d10_lowerToJoined_66 2 rfl ?_
            refine j_lload C d10_lowerToJoined_68 1 rfl ?_
            refine j_lload C d10_lowerToJoined_70 0 rfl ?_
            refine j_callVV3 (As := [.int p1, .int x3, .long x7, .long x8]) C d10_lowerToJoined_72 mv10_37 (kX10_put _ _ tc n h_ h_costs h_highs h_lows c_costs c_highs c_lows p1 x3 x7 x8) ⟨rfl, rfl, Nat.le_of_ble_eq_true rfl, Nat.le_of_ble_eq_true rfl⟩ rfl 0 rfl [0, 1, 2, 3] rfl rfl rfl (Nat.le_of_ble_eq_true rfl) (fun o14 o15 o16 => [(h_, .inr (10, [.ref h_costs, .ref h_highs, .ref h_lows])), (h_costs, .inl (tc.1, n, .inl o14)), (h_highs, .inl (tc.2.1, n, .inr (.inl o15))), (h_lows, .inl (tc.2.1, n, .inr (.inl o16)))]) [(true, 0), (true, 1), (true, 2), (true, 3)] (fun _ => rfl) (by decide +kernel) (fun o14 o15 o16 => ?_)
            exact j_sub [] rfl (hk13 _ _ _)
      · exact j_sub [] rfl (hk5 _)

theorem d5_extendCover_0 : jdi cX5_extendCover 0 5 2 := Or.inr (by decide +kernel)
theorem d5_extendCover_2 : jds cX5_extendCover 2 6 4 := Or.inr (by decide +kernel)
theorem d5_extendCover_4 : jdi cX5_extendCover 4 6 6 := Or.inr (by decide +kernel)
theorem d5_extendCover_6 : jdi cX5_extendCover 6 4 8 := Or.inr (by decide +kernel)
theorem d5_extendCover_8 : jdb cX5_extendCover 8 (.if_icmp .lt 81) 81 89 11 := by decide +kernel
theorem d5_extendCover_11 : jda cX5_extendCover 11 0 12 := Or.inl ⟨0, by decide +kernel⟩
theorem d5_extendCover_12 : jd cX5_extendCover 12 (.getfield 20) 3 15 := by decide +kernel
theorem d5_extendCover_15 : jdk cX5_extendCover 15 1467 18 := Or.inr (Or.inr ⟨1467, by decide +kernel⟩)
theorem d5_extendCover_18 : jd cX5_extendCover 18 (.invokevirtual 66) 3 21 := by decide +kernel
theorem d5_extendCover_21 : jdi cX5_extendCover 21 2 22 := Or.inl ⟨2, by decide +kernel⟩
theorem d5_extendCover_22 : jds cX5_extendCover 22 7 24 := Or.inr (by decide +kernel)
theorem d5_extendCover_24 : jdi cX5_extendCover 24 7 26 := Or.inr (by decide +kernel)
theorem d5_extendCover_26 : jdi cX5_extendCover 26 6 28 := Or.inr (by decide +kernel)
theorem d5_extendCover_28 : jdb cX5_extendCover 28 (.if_icmp .gt 39) 39 67 31 := by decide +kernel
theorem d5_extendCover_31 : jdi cX5_extendCover 31 7 33 := Or.inr (by decide +kernel)
theorem d5_extendCover_33 : jdi cX5_extendCover 33 3 34 := Or.inl ⟨3, by decide +kernel⟩
theorem d5_extendCover_34 : jdb cX5_extendCover 34 (.if_icmp .gt 33) 33 67 37 := by decide +kernel
theorem d5_extendCover_37 : jda cX5_extendCover 37 0 38 := Or.inl ⟨0, by decide +kernel⟩
theorem d5_extendCover_38 : jd cX5_extendCover 38 (.getfield 20) 3 41 := by decide +kernel
theorem d5_extendCover_41 : jdk cX5_extendCover 41 1467 44 := Or.inr (Or.inr ⟨1467, by decide +kernel⟩)
theorem d5_extendCover_44 : jdk cX5_extendCover 44 1458 47 := Or.inr (Or.inr ⟨1458, by decide +kernel⟩)
theorem d5_extendCover_47 : jdi cX5_extendCover 47 7 49 := Or.inr (by decide +kernel)
theorem d5_extendCover_49 : jd cX5_extendCover 49 (.iadd) 1 50 := by decide +kernel
theorem d5_extendCover_50 : jdi cX5_extendCover 50 7 52 := Or.inr (by decide +kernel)
theorem d5_extendCover_52 : jdi cX5_extendCover 52 6 54 := Or.inr (by decide +kernel)
theorem d5_extendCover_54 : jdi cX5_extendCover 54 1 55 := Or.inl ⟨1, by decide +kernel⟩
theorem d5_extendCover_55 : jd cX5_extendCover 55 (.invokestatic 48) 3 58 := by decide +kernel
theorem d5_extendCover_58 : jd cX5_extendCover 58 (.invokevirtual 106) 3 61 := by decide +kernel
theorem d5_extendCover_61 : jd cX5_extendCover 61 (.iinc 7 1) 3 64 := by decide +kernel
theorem d5_extendCover_64 : jdb cX5_extendCover 64 (.goto (-40)) (-40) 24 67 := by decide +kernel
theorem d5_extendCover_67 : jda cX5_extendCover 67 0 68 := Or.inl ⟨0, by decide +kernel⟩
theorem d5_extendCover_68 : jd cX5_extendCover 68 (.getfield 20) 3 71 := by decide +kernel
theorem d5_extendCover_71 : jdk cX5_extendCover 71 1458 74 := Or.inr (Or.inr ⟨1458, by decide +kernel⟩)
theorem d5_extendCover_74 : jdi cX5_extendCover 74 6 76 := Or.inr (by decide +kernel)
theorem d5_extendCover_76 : jd cX5_extendCover 76 (.iadd) 1 77 := by decide +kernel
theorem d5_extendCover_77 : jdk cX5_extendCover 77 1467 80 := Or.inr (Or.inr ⟨1467, by decide +kernel⟩)
theorem d5_extendCover_80 : jd cX5_extendCover 80 (.invokevirtual 56) 3 83 := by decide +kernel
theorem d5_extendCover_83 : jd cX5_extendCover 83 (.iinc 6 (-1)) 3 86 := by decide +kernel
theorem d5_extendCover_86 : jdb cX5_extendCover 86 (.goto (-82)) (-82) 4 89 := by decide +kernel
theorem d5_extendCover_89 : decode cX5_extendCover 89 = .ok (.return_, 1) := by decide +kernel
set_option maxHeartbeats 4000000 in
set_option maxRecDepth 100000 in
theorem wX5_extendCover_24 {X : jC} {tc : jTC} (C : jx X cX5_extendCover 8 RX5 none tc ({ frames := 2, cells := 0, slots := 0, locals := 54 } : Room)) (h_ h_words h_words_costs h_words_highs h_words_lows : Nat) (g_rules g_input g_weights : Value) (p1 : Int32) (p2 : Int32) (p3 : Int32) (p4 : Int32) (v5 : Int32) (k20 : ((Nat → Int32) → (Nat → Int64) → (Nat → Int64) → Option ((Nat → Int32) × (Nat → Int64) × (Nat → Int64)))) (hk20 : ∀ (v31 : (Nat → Int32)) (v32 : (Nat → Int64)) (v33 : (Nat → Int64)), jo X 8 (0, 0) (jQV X (fun (u : (Nat → Int32) × (Nat → Int64) × (Nat → Int64)) => [(h_, .inr (5, [g_rules, g_input, g_weights, .ref h_words])), (h_words, .inr (10, [.ref h_words_costs, .ref h_words_highs, .ref h_words_lows])), (h_words_costs, .inl (tc.1, 1469, .inl u.1)), (h_words_highs, .inl (tc.2.1, 1469, .inr (.inl u.2.1))), (h_words_lows, .inl (tc.2.1, 1469, .inr (.inl u.2.2)))])) (k20 v31 v32 v33) [(h_, .inr (5, [g_rules, g_input, g_weights, .ref h_words])), (h_words, .inr (10, [.ref h_words_costs, .ref h_words_highs, .ref h_words_lows])), (h_words_costs, .inl (tc.1, 1469, .inl v31)), (h_words_highs, .inl (tc.2.1, 1469, .inr (.inl v32))), (h_words_lows, .inl (tc.2.1, 1469, .inr (.inl v33)))] 67 [(0, .ref h_), (1, .int p1), (2, .int p2), (3, .int p3), (4, .int p4), (6, .int v5)] []) (rc25 : Int32 → (Nat → Int32) → (Nat → Int64) → (Nat → Int64) → Option ((Nat → Int32) × (Nat → Int64) × (Nat → Int64))) (hrc25 : ∀ (v21 : Int32) (v22 : (Nat → Int32)) (v23 : (Nat → Int64)) (v24 : (Nat → Int64)), jo X 8 (0, 0) (jQV X (fun (u : (Nat → Int32) × (Nat → Int64) × (Nat → Int64)) => [(h_, .inr (5, [g_rules, g_input, g_weights, .ref h_words])), (h_words, .inr (10, [.ref h_words_costs, .ref h_words_highs, .ref h_words_lows])), (h_words_costs, .inl (tc.1, 1469, .inl u.1)), (h_words_highs, .inl (tc.2.1, 1469, .inr (.inl u.2.1))), (h_words_lows, .inl (tc.2.1, 1469, .inr (.inl u.2.2)))])) (rc25 v21 v22 v23 v24) [(h_, .inr (5, [g_rules, g_input, g_weights, .ref h_words])), (h_words, .inr (10, [.ref h_words_costs, .ref h_words_highs, .ref h_words_lows])), (h_words_costs, .inl (tc.1, 1469, .inl v22)), (h_words_highs, .inl (tc.2.1, 1469, .inr (.inl v23))), (h_words_lows, .inl (tc.2.1, 1469, .inr (.inl v24)))] 24 [(0, .ref h_), (1, .int p1), (2, .int p2), (3, .int p3), (4, .int p4), (6, .int v5), (7, .int v21)] []) (v21 : Int32) (v22 : (Nat → Int32)) (v23 : (Nat → Int64)) (v24 : (Nat → Int64)) : jo X 8 (0, 0) (jQV X (fun (u : (Nat → Int32) × (Nat → Int64) × (Nat → Int64)) => [(h_, .inr (5, [g_rules, g_input, g_weights, .ref h_words])), (h_words, .inr (10, [.ref h_words_costs, .ref h_words_highs, .ref h_words_lows])), (h_words_costs, .inl (tc.1, 1469, .inl u.1)), (h_words_highs, .inl (tc.2.1, 1469, .inr (.inl u.2.1))), (h_words_lows, .inl (tc.2.1, 1469, .inr (.inl u.2.2)))])) (bX5_extendCover_24 p1 p3 v5 k20 rc25 v21 v22 v23 v24) [(h_, .inr (5, [g_rules, g_input, g_weights, .ref h_words])), (h_words, .inr (10, [.ref h_words_costs, .ref h_words_highs, .ref h_words_lows])), (h_words_costs, .inl (tc.1, 1469, .inl v22)), (h_words_highs, .inl (tc.2.1, 1469, .inr (.inl v23))), (h_words_lows, .inl (tc.2.1, 1469, .inr (.inl v24)))] 24 [(0, .ref h_), (1, .int p1), (2, .int p2), (3, .int p3), (4, .int p4), (6, .int v5), (7, .int v21)] [] := by
  unfold bX5_extendCover_24
  refine j_iload C d5_extendCover_24 6 rfl ?_
  refine j_iload C d5_extendCover_26 5 rfl ?_
  refine j_icmp_gt C d5_extendCover_28 ?_ ?_
  · exact j_sub [0, 1, 2, 3, 4, 5] rfl (hk20 _ _ _)
  · refine j_iload C d5_extendCover_31 6 rfl ?_
    refine j_iload C d5_extendCover_33 3 rfl ?_
    refine j_icmp_gt C d5_extendCover_34 ?_ ?_
    · exact j_sub [0, 1, 2, 3, 4, 5] rfl (hk20 _ _ _)
    · refine j_aload C d5_extendCover_37 0 rfl ?_
      refine j_get C d5_extendCover_38 fl5_20 0 rfl rfl ?_
      refine j_const C d5_extendCover_41 ?_
      refine j_const C d5_extendCover_44 ?_
      refine j_iload C d5_extendCover_47 6 rfl ?_
      refine j_iadd C d5_extendCover_49 ?_
      refine j_iload C d5_extendCover_50 6 rfl ?_
      refine j_iload C d5_extendCover_52 5 rfl ?_
      refine j_iload C d5_extendCover_54 1 rfl ?_
      refine j_callSI0 (As := [.int v21, .int v5, .int p1]) C d5_extendCover_55 ms5_48 (kX5_wordOf _ _ tc v21 v5 p1) ⟨rfl, rfl, Nat.le_of_ble_eq_true rfl, Nat.le_of_ble_eq_true rfl⟩ rfl [] rfl rfl rfl (Nat.le_of_ble_eq_true rfl) (fun x26 => ?_)
      refine j_callVV3 (As := [.int 1467, .int ((1458 : Int32) + v21), .int x26]) C d5_extendCover_58 mv5_106 (kX10_lowerToJoined _ _ tc 1469 h_words h_words_costs h_words_highs h_words_lows v22 v23 v24 1467 ((1458 : Int32) + v21) x26) ⟨rfl, rfl, Nat.le_of_ble_eq_true rfl, Nat.le_of_ble_eq_true rfl⟩ rfl 1 rfl [1, 2, 3, 4] rfl rfl rfl (Nat.le_of_ble_eq_true rfl) (fun o27 o28 o29 => [(h_, .inr (5, [g_rules, g_input, g_weights, .ref h_words])), (h_words, .inr (10, [.ref h_words_costs, .ref h_words_highs, .ref h_words_lows])), (h_words_costs, .inl (tc.1, 1469, .inl o27)), (h_words_highs, .inl (tc.2.1, 1469, .inr (.inl o28))), (h_words_lows, .inl (tc.2.1, 1469, .inr (.inl o29)))]) [(false, 0), (true, 0), (true, 1), (true, 2), (true, 3)] (fun _ => rfl) (by decide +kernel) (fun o27 o28 o29 => ?_)
      refine j_iincN C (fun x30 => [(7, .int x30), (0, .ref h_), (1, .int p1), (2, .int p2), (3, .int p3), (4, .int p4), (6, .int v5)]) d5_extendCover_61 6 rfl (by decide +kernel) (by decide) (fun _ => rfl) (fun x30 => ?_)
      refine j_goto C d5_extendCover_64 ?_
      exact j_sub [1, 2, 3, 4, 5, 6, 0] rfl (hrc25 _ _ _ _)

set_option maxHeartbeats 4000000 in
set_option maxRecDepth 100000 in
theorem wX5_extendCover_4 {X : jC} {tc : jTC} (C : jx X cX5_extendCover 8 RX5 none tc ({ frames := 2, cells := 0, slots := 0, locals := 54 } : Room)) (N : Nat) (h_ h_words h_words_costs h_words_highs h_words_lows : Nat) (g_rules g_input g_weights : Value) (p1 : Int32) (p2 : Int32) (p3 : Int32) (p4 : Int32) (k4 : ((Nat → Int32) → (Nat → Int64) → (Nat → Int64) → Option ((Nat → Int32) × (Nat → Int64) × (Nat → Int64)))) (hk4 : ∀ (v34 : (Nat → Int32)) (v35 : (Nat → Int64)) (v36 : (Nat → Int64)), jo X 8 (0, 0) (jQV X (fun (u : (Nat → Int32) × (Nat → Int64) × (Nat → Int64)) => [(h_, .inr (5, [g_rules, g_input, g_weights, .ref h_words])), (h_words, .inr (10, [.ref h_words_costs, .ref h_words_highs, .ref h_words_lows])), (h_words_costs, .inl (tc.1, 1469, .inl u.1)), (h_words_highs, .inl (tc.2.1, 1469, .inr (.inl u.2.1))), (h_words_lows, .inl (tc.2.1, 1469, .inr (.inl u.2.2)))])) (k4 v34 v35 v36) [(h_, .inr (5, [g_rules, g_input, g_weights, .ref h_words])), (h_words, .inr (10, [.ref h_words_costs, .ref h_words_highs, .ref h_words_lows])), (h_words_costs, .inl (tc.1, 1469, .inl v34)), (h_words_highs, .inl (tc.2.1, 1469, .inr (.inl v35))), (h_words_lows, .inl (tc.2.1, 1469, .inr (.inl v36)))] 89 [] []) (rc9 : Int32 → (Nat → Int32) → (Nat → Int64) → (Nat → Int64) → Option ((Nat → Int32) × (Nat → Int64) × (Nat → Int64))) (hrc9 : ∀ (v5 : Int32) (v6 : (Nat → Int32)) (v7 : (Nat → Int64)) (v8 : (Nat → Int64)), jo X 8 (0, 0) (jQV X (fun (u : (Nat → Int32) × (Nat → Int64) × (Nat → Int64)) => [(h_, .inr (5, [g_rules, g_input, g_weights, .ref h_words])), (h_words, .inr (10, [.ref h_words_costs, .ref h_words_highs, .ref h_words_lows])), (h_words_costs, .inl (tc.1, 1469, .inl u.1)), (h_words_highs, .inl (tc.2.1, 1469, .inr (.inl u.2.1))), (h_words_lows, .inl (tc.2.1, 1469, .inr (.inl u.2.2)))])) (rc9 v5 v6 v7 v8) [(h_, .inr (5, [g_rules, g_input, g_weights, .ref h_words])), (h_words, .inr (10, [.ref h_words_costs, .ref h_words_highs, .ref h_words_lows])), (h_words_costs, .inl (tc.1, 1469, .inl v6)), (h_words_highs, .inl (tc.2.1, 1469, .inr (.inl v7))), (h_words_lows, .inl (tc.2.1, 1469, .inr (.inl v8)))] 4 [(0, .ref h_), (1, .int p1), (2, .int p2), (3, .int p3), (4, .int p4), (6, .int v5)] []) (v5 : Int32) (v6 : (Nat → Int32)) (v7 : (Nat → Int64)) (v8 : (Nat → Int64)) : jo X 8 (0, 0) (jQV X (fun (u : (Nat → Int32) × (Nat → Int64) × (Nat → Int64)) => [(h_, .inr (5, [g_rules, g_input, g_weights, .ref h_words])), (h_words, .inr (10, [.ref h_words_costs, .ref h_words_highs, .ref h_words_lows])), (h_words_costs, .inl (tc.1, 1469, .inl u.1)), (h_words_highs, .inl (tc.2.1, 1469, .inr (.inl u.2.1))), (h_words_lows, .inl (tc.2.1, 1469, .inr (.inl u.2.2)))])) (bX5_extendCover_4 N p1 p2 p3 p4 k4 rc9 v5 v6 v7 v8) [(h_, .inr (5, [g_rules, g_input, g_weights, .ref h_words])), (h_words, .inr (10, [.ref h_words_costs, .ref h_words_highs, .ref h_words_lows])), (h_words_costs, .inl (tc.1, 1469, .inl v6)), (h_words_highs, .inl (tc.2.1, 1469, .inr (.inl v7))), (h_words_lows, .inl (tc.2.1, 1469, .inr (.inl v8)))] 4 [(0, .ref h_), (1, .int p1), (2, .int p2), (3, .int p3), (4, .int p4), (6, .int v5)] [] := by
  unfold bX5_extendCover_4
  refine j_iload C d5_extendCover_4 5 rfl ?_
  refine j_iload C d5_extendCover_6 4 rfl ?_
  refine j_icmp_lt C d5_extendCover_8 ?_ ?_
  · exact j_sub [] rfl (hk4 _ _ _)
  · refine j_aload C d5_extendCover_11 0 rfl ?_
    refine j_get C d5_extendCover_12 fl5_20 0 rfl rfl ?_
    refine j_const C d5_extendCover_15 ?_
    refine j_callVV3 (As := [.int 1467]) C d5_extendCover_18 mv5_66 (kX10_putNone _ _ tc 1469 h_words h_words_costs h_words_highs h_words_lows v6 v7 v8 1467) ⟨rfl, rfl, Nat.le_of_ble_eq_true rfl, Nat.le_of_ble_eq_true rfl⟩ rfl 1 rfl [1, 2, 3, 4] rfl rfl rfl (Nat.le_of_ble_eq_true rfl) (fun o10 o11 o12 => [(h_, .inr (5, [g_rules, g_input, g_weights, .ref h_words])), (h_words, .inr (10, [.ref h_words_costs, .ref h_words_highs, .ref h_words_lows])), (h_words_costs, .inl (tc.1, 1469, .inl o10)), (h_words_highs, .inl (tc.2.1, 1469, .inr (.inl o11))), (h_words_lows, .inl (tc.2.1, 1469, .inr (.inl o12)))]) [(false, 0), (true, 0), (true, 1), (true, 2), (true, 3)] (fun _ => rfl) (by decide +kernel) (fun o10 o11 o12 => ?_)
    refine j_iload C d5_extendCover_21 2 rfl ?_
    refine j_istore C d5_extendCover_22 (by decide) (lv' := [(7, .int p2), (0, .ref h_), (1, .int p1), (2, .int p2), (3, .int p3), (4, .int p4), (6, .int v5)]) rfl ?_
    refine j_join3 67 (fun v13 v14 v15 => [(h_, .inr (5, [g_rules, g_input, g_weights, .ref h_words])), (h_words, .inr (10, [.ref h_words_costs, .ref h_words_highs, .ref h_words_lows])), (h_words_costs, .inl (tc.1, 1469, .inl v13)), (h_words_highs, .inl (tc.2.1, 1469, .inr (.inl v14))), (h_words_lows, .inl (tc.2.1, 1469, .inr (.inl v15)))]) (fun v13 v14 v15 => [(0, .ref h_), (1, .int p1), (2, .int p2), (3, .int p3), (4, .int p4), (6, .int v5)]) (fun v13 v14 v15 => []) (fun v13 v14 v15 => ?_) (fun k20 hk20 => ?_)
    · refine j_aload C d5_extendCover_67 0 rfl ?_
      refine j_get C d5_extendCover_68 fl5_20 0 rfl rfl ?_
      refine j_const C d5_extendCover_71 ?_
      refine j_iload C d5_extendCover_74 5 rfl ?_
      refine j_iadd C d5_extendCover_76 ?_
      refine j_const C d5_extendCover_77 ?_
      refine j_callVV3 (As := [.int ((1458 : Int32) + v5), .int 1467]) C d5_extendCover_80 mv5_56 (kX10_putCopy _ _ tc 1469 h_words h_words_costs h_words_highs h_words_lows v13 v14 v15 ((1458 : Int32) + v5) 1467) ⟨rfl, rfl, Nat.le_of_ble_eq_true rfl, Nat.le_of_ble_eq_true rfl⟩ rfl 1 rfl [1, 2, 3, 4] rfl rfl rfl (Nat.le_of_ble_eq_true rfl) (fun o16 o17 o18 => [(h_, .inr (5, [g_rules, g_input, g_weights, .ref h_words])), (h_words, .inr (10, [.ref h_words_costs, .ref h_words_highs, .ref h_words_lows])), (h_words_costs, .inl (tc.1, 1469, .inl o16)), (h_words_highs, .inl (tc.2.1, 1469, .inr (.inl o17))), (h_words_lows, .inl (tc.2.1, 1469, .inr (.inl o18)))]) [(false, 0), (true, 0), (true, 1), (true, 2), (true, 3)] (fun _ => rfl) (by decide +kernel) (fun o16 o17 o18 => ?_)
      refine j_iincN C (fun x19 => [(6, .int x19), (0, .ref h_), (1, .int p1), (2, .int p2), (3, .int p3), (4, .int p4)]) d5_extendCover_83 5 rfl (by decide +kernel) (by decide) (fun _ => rfl) (fun x19 => ?_)
      refine j_goto C d5_extendCover_86 ?_
      exact j_sub [1, 2, 3, 4, 5, 0] rfl (hrc9 _ _ _ _)
    · exact j_sub [1, 2, 3, 4, 5, 6, 0] rfl (j_loop4 (fun v21 v22 v23 v24 => [(h_, .inr (5, [g_rules, g_input, g_weights, .ref h_words])), (h_words, .inr (10, [.ref h_words_costs, .ref h_words_highs, .ref h_words_lows])), (h_words_costs, .inl (tc.1, 1469, .inl v22)), (h_words_highs, .inl (tc.2.1, 1469, .inr (.inl v23))), (h_words_lows, .inl (tc.2.1, 1469, .inr (.inl v24)))]) (fun v21 v22 v23 v24 => [(0, .ref h_), (1, .int p1), (2, .int p2), (3, .int p3), (4, .int p4), (6, .int v5), (7, .int v21)]) (fun rc25 hrc25 v21 v22 v23 v24 => wX5_extendCover_24 C h_ h_words h_words_costs h_words_highs h_words_lows g_rules g_input g_weights p1 p2 p3 p4 v5 k20 hk20 rc25 hrc25 v21 v22 v23 v24) N _ _ _ _)

set_option maxHeartbeats 4000000 in
set_option maxRecDepth 100000 in
theorem kX5_extendCover (l : Launch) (D : va_G) (tc : jTC) (N : Nat) (h_ h_words h_words_costs h_words_highs h_words_lows : Nat) (g_rules g_input g_weights : Value) (c_words_costs : (Nat → Int32)) (c_words_highs : (Nat → Int64)) (c_words_lows : (Nat → Int64)) (p1 : Int32) (p2 : Int32) (p3 : Int32) (p4 : Int32) (p5 : Int32) : ctV l D tc yX5_extendCover (Cond.code yX5_extendCover cX5_extendCover 8 none :: jtb) ({ frames := 2, cells := 0, slots := 0, locals := 54 } : Room) [.ref h_, .int p1, .int p2, .int p3, .int p4, .int p5] [(h_, .inr (5, [g_rules, g_input, g_weights, .ref h_words])), (h_words, .inr (10, [.ref h_words_costs, .ref h_words_highs, .ref h_words_lows])), (h_words_costs, .inl (tc.1, 1469, .inl c_words_costs)), (h_words_highs, .inl (tc.2.1, 1469, .inr (.inl c_words_highs))), (h_words_lows, .inl (tc.2.1, 1469, .inr (.inl c_words_lows)))] (fX5_extendCover N c_words_costs c_words_highs c_words_lows p1 p2 p3 p4 p5) (fun (u : (Nat → Int32) × (Nat → Int64) × (Nat → Int64)) => [(h_, .inr (5, [g_rules, g_input, g_weights, .ref h_words])), (h_words, .inr (10, [.ref h_words_costs, .ref h_words_highs, .ref h_words_lows])), (h_words_costs, .inl (tc.1, 1469, .inl u.1)), (h_words_highs, .inl (tc.2.1, 1469, .inr (.inl u.2.1))), (h_words_lows, .inl (tc.2.1, 1469, .inr (.inl u.2.2)))]) := by
  refine ctV_of (lv0 := [(0, .ref h_), (1, .int p1), (2, .int p2), (3, .int p3), (4, .int p4), (5, .int p5)]) (by decide +kernel) (Nat.le_of_ble_eq_true rfl) rfl (fun X C => ?_)
  unfold fX5_extendCover
  refine j_iload C d5_extendCover_0 5 rfl ?_
  refine j_istore C d5_extendCover_2 (by decide) (lv' := [(6, .int p5), (0, .ref h_), (1, .int p1), (2, .int p2), (3, .int p3), (4, .int p4), (5, .int p5)]) rfl ?_
  refine j_join3 89 (fun v1 v2 v3 => [(h_, .inr (5, [g_rules, g_input, g_weights, .ref h_words])), (h_words, .inr (10, [.ref h_words_costs, .ref h_words_highs, .ref h_words_lows])), (h_words_costs, .inl (tc.1, 1469, .inl v1)), (h_words_highs, .inl (tc.2.1, 1469, .inr (.inl v2))), (h_words_lows, .inl (tc.2.1, 1469, .inr (.inl v3)))]) (fun v1 v2 v3 => []) (fun v1 v2 v3 => []) (fun v1 v2 v3 => ?_) (fun k4 hk4 => ?_)
  · exact j_vret C d5_extendCover_89 rfl
  · exact j_sub [1, 2, 3, 4, 5, 0] rfl (j_loop4 (fun v5 v6 v7 v8 => [(h_, .inr (5, [g_rules, g_input, g_weights, .ref h_words])), (h_words, .inr (10, [.ref h_words_costs, .ref h_words_highs, .ref h_words_lows])), (h_words_costs, .inl (tc.1, 1469, .inl v6)), (h_words_highs, .inl (tc.2.1, 1469, .inr (.inl v7))), (h_words_lows, .inl (tc.2.1, 1469, .inr (.inl v8)))]) (fun v5 v6 v7 v8 => [(0, .ref h_), (1, .int p1), (2, .int p2), (3, .int p3), (4, .int p4), (6, .int v5)]) (fun rc9 hrc9 v5 v6 v7 v8 => wX5_extendCover_4 C N h_ h_words h_words_costs h_words_highs h_words_lows g_rules g_input g_weights p1 p2 p3 p4 k4 hk4 rc9 hrc9 v5 v6 v7 v8) N _ _ _ _)

theorem d5_lowerBy_0 : jdi cX5_lowerBy 0 2 1 := Or.inl ⟨2, by decide +kernel⟩
theorem d5_lowerBy_1 : jds cX5_lowerBy 1 4 3 := Or.inr (by decide +kernel)
theorem d5_lowerBy_3 : jdi cX5_lowerBy 3 4 5 := Or.inr (by decide +kernel)
theorem d5_lowerBy_5 : jdi cX5_lowerBy 5 3 6 := Or.inl ⟨3, by decide +kernel⟩
theorem d5_lowerBy_6 : jdb cX5_lowerBy 6 (.if_icmp .gt 22) 22 28 9 := by decide +kernel
theorem d5_lowerBy_9 : jda cX5_lowerBy 9 0 10 := Or.inl ⟨0, by decide +kernel⟩
theorem d5_lowerBy_10 : jd cX5_lowerBy 10 (.getfield 20) 3 13 := by decide +kernel
theorem d5_lowerBy_13 : jdk cX5_lowerBy 13 1458 16 := Or.inr (Or.inr ⟨1458, by decide +kernel⟩)
theorem d5_lowerBy_16 : jdi cX5_lowerBy 16 4 18 := Or.inr (by decide +kernel)
theorem d5_lowerBy_18 : jd cX5_lowerBy 18 (.iadd) 1 19 := by decide +kernel
theorem d5_lowerBy_19 : jd cX5_lowerBy 19 (.invokevirtual 66) 3 22 := by decide +kernel
theorem d5_lowerBy_22 : jd cX5_lowerBy 22 (.iinc 4 1) 3 25 := by decide +kernel
theorem d5_lowerBy_25 : jdb cX5_lowerBy 25 (.goto (-22)) (-22) 3 28 := by decide +kernel
theorem d5_lowerBy_28 : jda cX5_lowerBy 28 0 29 := Or.inl ⟨0, by decide +kernel⟩
theorem d5_lowerBy_29 : jd cX5_lowerBy 29 (.getfield 20) 3 32 := by decide +kernel
theorem d5_lowerBy_32 : jdk cX5_lowerBy 32 1458 35 := Or.inr (Or.inr ⟨1458, by decide +kernel⟩)
theorem d5_lowerBy_35 : jdi cX5_lowerBy 35 2 36 := Or.inl ⟨2, by decide +kernel⟩
theorem d5_lowerBy_36 : jd cX5_lowerBy 36 (.iadd) 1 37 := by decide +kernel
theorem d5_lowerBy_37 : jd cX5_lowerBy 37 (.invokevirtual 88) 3 40 := by decide +kernel
theorem d5_lowerBy_40 : jdi cX5_lowerBy 40 1 41 := Or.inl ⟨1, by decide +kernel⟩
theorem d5_lowerBy_41 : jd cX5_lowerBy 41 (.invokestatic 91) 3 44 := by decide +kernel
theorem d5_lowerBy_44 : jdk cX5_lowerBy 44 1 45 := Or.inl ⟨1, by decide +kernel⟩
theorem d5_lowerBy_45 : jd cX5_lowerBy 45 (.isub) 1 46 := by decide +kernel
theorem d5_lowerBy_46 : jds cX5_lowerBy 46 4 48 := Or.inr (by decide +kernel)
theorem d5_lowerBy_48 : jdk cX5_lowerBy 48 0 49 := Or.inl ⟨0, by decide +kernel⟩
theorem d5_lowerBy_49 : jds cX5_lowerBy 49 5 51 := Or.inr (by decide +kernel)
theorem d5_lowerBy_51 : jdi cX5_lowerBy 51 5 53 := Or.inr (by decide +kernel)
theorem d5_lowerBy_53 : jdi cX5_lowerBy 53 4 55 := Or.inr (by decide +kernel)
theorem d5_lowerBy_55 : jdb cX5_lowerBy 55 (.if_icmp .gt 43) 43 98 58 := by decide +kernel
theorem d5_lowerBy_58 : jda cX5_lowerBy 58 0 59 := Or.inl ⟨0, by decide +kernel⟩
theorem d5_lowerBy_59 : jdi cX5_lowerBy 59 1 60 := Or.inl ⟨1, by decide +kernel⟩
theorem d5_lowerBy_60 : jdi cX5_lowerBy 60 5 62 := Or.inr (by decide +kernel)
theorem d5_lowerBy_62 : jd cX5_lowerBy 62 (.invokestatic 92) 3 65 := by decide +kernel
theorem d5_lowerBy_65 : jdi cX5_lowerBy 65 2 66 := Or.inl ⟨2, by decide +kernel⟩
theorem d5_lowerBy_66 : jdi cX5_lowerBy 66 5 68 := Or.inr (by decide +kernel)
theorem d5_lowerBy_68 : jdb cX5_lowerBy 68 (.ifCond .ne 7) 7 75 71 := by decide +kernel
theorem d5_lowerBy_71 : jdi cX5_lowerBy 71 2 72 := Or.inl ⟨2, by decide +kernel⟩
theorem d5_lowerBy_72 : jdb cX5_lowerBy 72 (.goto 4) 4 76 75 := by decide +kernel
theorem d5_lowerBy_75 : jdi cX5_lowerBy 75 3 76 := Or.inl ⟨3, by decide +kernel⟩
theorem d5_lowerBy_76 : jdi cX5_lowerBy 76 5 78 := Or.inr (by decide +kernel)
theorem d5_lowerBy_78 : jdi cX5_lowerBy 78 4 80 := Or.inr (by decide +kernel)
theorem d5_lowerBy_80 : jdb cX5_lowerBy 80 (.if_icmp .ne 7) 7 87 83 := by decide +kernel
theorem d5_lowerBy_83 : jdi cX5_lowerBy 83 3 84 := Or.inl ⟨3, by decide +kernel⟩
theorem d5_lowerBy_84 : jdb cX5_lowerBy 84 (.goto 4) 4 88 87 := by decide +kernel
theorem d5_lowerBy_87 : jdi cX5_lowerBy 87 2 88 := Or.inl ⟨2, by decide +kernel⟩
theorem d5_lowerBy_88 : jdi cX5_lowerBy 88 3 89 := Or.inl ⟨3, by decide +kernel⟩
theorem d5_lowerBy_89 : jd cX5_lowerBy 89 (.invokevirtual 95) 3 92 := by decide +kernel
theorem d5_lowerBy_92 : jd cX5_lowerBy 92 (.iinc 5 1) 3 95 := by decide +kernel
theorem d5_lowerBy_95 : jdb cX5_lowerBy 95 (.goto (-44)) (-44) 51 98 := by decide +kernel
theorem d5_lowerBy_98 : jda cX5_lowerBy 98 0 99 := Or.inl ⟨0, by decide +kernel⟩
theorem d5_lowerBy_99 : jd cX5_lowerBy 99 (.getfield 20) 3 102 := by decide +kernel
theorem d5_lowerBy_102 : jdi cX5_lowerBy 102 2 103 := Or.inl ⟨2, by decide +kernel⟩
theorem d5_lowerBy_103 : jdi cX5_lowerBy 103 3 104 := Or.inl ⟨3, by decide +kernel⟩
theorem d5_lowerBy_104 : jdk cX5_lowerBy 104 10 106 := Or.inr (Or.inl ⟨10, by decide +kernel⟩)
theorem d5_lowerBy_106 : jdi cX5_lowerBy 106 1 107 := Or.inl ⟨1, by decide +kernel⟩
theorem d5_lowerBy_107 : jd cX5_lowerBy 107 (.invokestatic 99) 3 110 := by decide +kernel
theorem d5_lowerBy_110 : jd cX5_lowerBy 110 (.iadd) 1 111 := by decide +kernel
theorem d5_lowerBy_111 : jd cX5_lowerBy 111 (.invokestatic 48) 3 114 := by decide +kernel
theorem d5_lowerBy_114 : jdk cX5_lowerBy 114 1458 117 := Or.inr (Or.inr ⟨1458, by decide +kernel⟩)
theorem d5_lowerBy_117 : jdi cX5_lowerBy 117 3 118 := Or.inl ⟨3, by decide +kernel⟩
theorem d5_lowerBy_118 : jd cX5_lowerBy 118 (.iadd) 1 119 := by decide +kernel
theorem d5_lowerBy_119 : jd cX5_lowerBy 119 (.invokevirtual 102) 3 122 := by decide +kernel
theorem d5_lowerBy_122 : decode cX5_lowerBy 122 = .ok (.ireturn, 1) := by decide +kernel
set_option maxHeartbeats 4000000 in
set_option maxRecDepth 100000 in
theorem wX5_lowerBy_51 {X : jC} {tc : jTC} (C : jx X cX5_lowerBy 6 RX5 (some .boolean) tc ({ frames := 3, cells := 0, slots := 0, locals := 81 } : Room)) (N : Nat) (h_ h_words h_words_costs h_words_highs h_words_lows : Nat) (g_rules g_input g_weights : Value) (p1 : Int32) (p2 : Int32) (p3 : Int32) (x8 : Int32) (k18 : ((Nat → Int32) → (Nat → Int64) → (Nat → Int64) → Option (Int32 × (Nat → Int32) × (Nat → Int64) × (Nat → Int64)))) (hk18 : ∀ (v33 : (Nat → Int32)) (v34 : (Nat → Int64)) (v35 : (Nat → Int64)), jo X 6 (0, 0) (jQI X (fun (u : (Nat → Int32) × (Nat → Int64) × (Nat → Int64)) => [(h_, .inr (5, [g_rules, g_input, g_weights, .ref h_words])), (h_words, .inr (10, [.ref h_words_costs, .ref h_words_highs, .ref h_words_lows])), (h_words_costs, .inl (tc.1, 1469, .inl u.1)), (h_words_highs, .inl (tc.2.1, 1469, .inr (.inl u.2.1))), (h_words_lows, .inl (tc.2.1, 1469, .inr (.inl u.2.2)))])) (k18 v33 v34 v35) [(h_, .inr (5, [g_rules, g_input, g_weights, .ref h_words])), (h_words, .inr (10, [.ref h_words_costs, .ref h_words_highs, .ref h_words_lows])), (h_words_costs, .inl (tc.1, 1469, .inl v33)), (h_words_highs, .inl (tc.2.1, 1469, .inr (.inl v34))), (h_words_lows, .inl (tc.2.1, 1469, .inr (.inl v35)))] 98 [(0, .ref h_), (1, .int p1), (2, .int p2), (3, .int p3)] []) (rc23 : Int32 → (Nat → Int32) → (Nat → Int64) → (Nat → Int64) → Option (Int32 × (Nat → Int32) × (Nat → Int64) × (Nat → Int64))) (hrc23 : ∀ (v19 : Int32) (v20 : (Nat → Int32)) (v21 : (Nat → Int64)) (v22 : (Nat → Int64)), jo X 6 (0, 0) (jQI X (fun (u : (Nat → Int32) × (Nat → Int64) × (Nat → Int64)) => [(h_, .inr (5, [g_rules, g_input, g_weights, .ref h_words])), (h_words, .inr (10, [.ref h_words_costs, .ref h_words_highs, .ref h_words_lows])), (h_words_costs, .inl (tc.1, 1469, .inl u.1)), (h_words_highs, .inl (tc.2.1, 1469, .inr (.inl u.2.1))), (h_words_lows, .inl (tc.2.1, 1469, .inr (.inl u.2.2)))])) (rc23 v19 v20 v21 v22) [(h_, .inr (5, [g_rules, g_input, g_weights, .ref h_words])), (h_words, .inr (10, [.ref h_words_costs, .ref h_words_highs, .ref h_words_lows])), (h_words_costs, .inl (tc.1, 1469, .inl v20)), (h_words_highs, .inl (tc.2.1, 1469, .inr (.inl v21))), (h_words_lows, .inl (tc.2.1, 1469, .inr (.inl v22)))] 51 [(0, .ref h_), (1, .int p1), (2, .int p2), (3, .int p3), (4, .int x8), (5, .int v19)] []) (v19 : Int32) (v20 : (Nat → Int32)) (v21 : (Nat → Int64)) (v22 : (Nat → Int64)) : jo X 6 (0, 0) (jQI X (fun (u : (Nat → Int32) × (Nat → Int64) × (Nat → Int64)) => [(h_, .inr (5, [g_rules, g_input, g_weights, .ref h_words])), (h_words, .inr (10, [.ref h_words_costs, .ref h_words_highs, .ref h_words_lows])), (h_words_costs, .inl (tc.1, 1469, .inl u.1)), (h_words_highs, .inl (tc.2.1, 1469, .inr (.inl u.2.1))), (h_words_lows, .inl (tc.2.1, 1469, .inr (.inl u.2.2)))])) (bX5_lowerBy_51 N p1 p2 p3 x8 k18 rc23 v19 v20 v21 v22) [(h_, .inr (5, [g_rules, g_input, g_weights, .ref h_words])), (h_words, .inr (10, [.ref h_words_costs, .ref h_words_highs, .ref h_words_lows])), (h_words_costs, .inl (tc.1, 1469, .inl v20)), (h_words_highs, .inl (tc.2.1, 1469, .inr (.inl v21))), (h_words_lows, .inl (tc.2.1, 1469, .inr (.inl v22)))] 51 [(0, .ref h_), (1, .int p1), (2, .int p2), (3, .int p3), (4, .int x8), (5, .int v19)] [] := by
  unfold bX5_lowerBy_51
  refine j_iload C d5_lowerBy_51 5 rfl ?_
  refine j_iload C d5_lowerBy_53 4 rfl ?_
  refine j_icmp_gt C d5_lowerBy_55 ?_ ?_
  · exact j_sub [0, 1, 2, 3] rfl (hk18 _ _ _)
  · refine j_aload C d5_lowerBy_58 0 rfl ?_
    refine j_iload C d5_lowerBy_59 1 rfl ?_
    refine j_iload C d5_lowerBy_60 5 rfl ?_
    refine j_callSI0 (As := [.int p1, .int v19]) C d5_lowerBy_62 ms5_92 (kX6_symbolOf _ _ tc p1 v19) ⟨rfl, rfl, Nat.le_of_ble_eq_true rfl, Nat.le_of_ble_eq_true rfl⟩ rfl [] rfl rfl rfl (Nat.le_of_ble_eq_true rfl) (fun x24 => ?_)
    refine j_iload C d5_lowerBy_65 2 rfl ?_
    refine j_iload C d5_lowerBy_66 5 rfl ?_
    refine j_join 76 (fun v25 => [(h_, .inr (5, [g_rules, g_input, g_weights, .ref h_words])), (h_words, .inr (10, [.ref h_words_costs, .ref h_words_highs, .ref h_words_lows])), (h_words_costs, .inl (tc.1, 1469, .inl v20)), (h_words_highs, .inl (tc.2.1, 1469, .inr (.inl v21))), (h_words_lows, .inl (tc.2.1, 1469, .inr (.inl v22)))]) (fun v25 => [(0, .ref h_), (1, .int p1), (2, .int p2), (3, .int p3), (4, .int x8), (5, .int v19)]) (fun v25 => [.int v25, .int p2, .int x24, .ref h_]) (fun v25 => ?_) (fun k32 hk32 => ?_)
    · refine j_iload C d5_lowerBy_76 5 rfl ?_
      refine j_iload C d5_lowerBy_78 4 rfl ?_
      refine j_join 88 (fun v26 => [(h_, .inr (5, [g_rules, g_input, g_weights, .ref h_words])), (h_words, .inr (10, [.ref h_words_costs, .ref h_words_highs, .ref h_words_lows])), (h_words_costs, .inl (tc.1, 1469, .inl v20)), (h_words_highs, .inl (tc.2.1, 1469, .inr (.inl v21))), (h_words_lows, .inl (tc.2.1, 1469, .inr (.inl v22)))]) (fun v26 => [(0, .ref h_), (1, .int p1), (2, .int p2), (3, .int p3), (4, .int x8), (5, .int v19)]) (fun v26 => [.int v26, .int v25, .int p2, .int x24, .ref h_]) (fun v26 => ?_) (fun k31 hk31 => ?_)
      · refine j_iload C d5_lowerBy_88 3 rfl ?_
        refine j_callVV3 (As := [.int x24, .int p2, .int v25, .int v26, .int p3]) C d5_lowerBy_89 mv5_95 (kX5_extendCover _ _ tc N h_ h_words h_words_costs h_words_highs h_words_lows g_rules g_input g_weights v20 v21 v22 x24 p2 v25 v26 p3) ⟨rfl, rfl, Nat.le_of_ble_eq_true rfl, Nat.le_of_ble_eq_true rfl⟩ rfl 0 rfl [0, 1, 2, 3, 4] rfl rfl rfl (Nat.le_of_ble_eq_true rfl) (fun o27 o28 o29 => [(h_, .inr (5, [g_rules, g_input, g_weights, .ref h_words])), (h_words, .inr (10, [.ref h_words_costs, .ref h_words_highs, .ref h_words_lows])), (h_words_costs, .inl (tc.1, 1469, .inl o27)), (h_words_highs, .inl (tc.2.1, 1469, .inr (.inl o28))), (h_words_lows, .inl (tc.2.1, 1469, .inr (.inl o29)))]) [(true, 0), (true, 1), (true, 2), (true, 3), (true, 4)] (fun _ => rfl) (by decide +kernel) (fun o27 o28 o29 => ?_)
        refine j_iincN C (fun x30 => [(5, .int x30), (0, .ref h_), (1, .int p1), (2, .int p2), (3, .int p3), (4, .int x8)]) d5_lowerBy_92 5 rfl (by decide +kernel) (by decide) (fun _ => rfl) (fun x30 => ?_)
        refine j_goto C d5_lowerBy_95 ?_
        exact j_sub [1, 2, 3, 4, 5, 0] rfl (hrc23 _ _ _ _)
      · refine j_icmp_ne C d5_lowerBy_80 ?_ ?_
        · refine j_iload C d5_lowerBy_87 2 rfl ?_
          exact hk31 _
        · refine j_iload C d5_lowerBy_83 3 rfl ?_
          refine j_goto C d5_lowerBy_84 ?_
          exact hk31 _
    · refine j_if_ne C d5_lowerBy_68 ?_ ?_
      · refine j_iload C d5_lowerBy_75 3 rfl ?_
        exact hk32 _
      · refine j_iload C d5_lowerBy_71 2 rfl ?_
        refine j_goto C d5_lowerBy_72 ?_
        exact hk32 _

set_option maxHeartbeats 4000000 in
set_option maxRecDepth 100000 in
theorem wX5_lowerBy_3 {X : jC} {tc : jTC} (C : jx X cX5_lowerBy 6 RX5 (some .boolean) tc ({ frames := 3, cells := 0, slots := 0, locals := 81 } : Room)) (h_ h_words h_words_costs h_words_highs h_words_lows : Nat) (g_rules g_input g_weights : Value) (p1 : Int32) (p2 : Int32) (p3 : Int32) (k36 : ((Nat → Int32) → (Nat → Int64) → (Nat → Int64) → Option (Int32 × (Nat → Int32) × (Nat → Int64) × (Nat → Int64)))) (hk36 : ∀ (v46 : (Nat → Int32)) (v47 : (Nat → Int64)) (v48 : (Nat → Int64)), jo X 6 (0, 0) (jQI X (fun (u : (Nat → Int32) × (Nat → Int64) × (Nat → Int64)) => [(h_, .inr (5, [g_rules, g_input, g_weights, .ref h_words])), (h_words, .inr (10, [.ref h_words_costs, .ref h_words_highs, .ref h_words_lows])), (h_words_costs, .inl (tc.1, 1469, .inl u.1)), (h_words_highs, .inl (tc.2.1, 1469, .inr (.inl u.2.1))), (h_words_lows, .inl (tc.2.1, 1469, .inr (.inl u.2.2)))])) (k36 v46 v47 v48) [(h_, .inr (5, [g_rules, g_input, g_weights, .ref h_words])), (h_words, .inr (10, [.ref h_words_costs, .ref h_words_highs, .ref h_words_lows])), (h_words_costs, .inl (tc.1, 1469, .inl v46)), (h_words_highs, .inl (tc.2.1, 1469, .inr (.inl v47))), (h_words_lows, .inl (tc.2.1, 1469, .inr (.inl v48)))] 28 [(0, .ref h_), (1, .int p1), (2, .int p2), (3, .int p3)] []) (rc41 : Int32 → (Nat → Int32) → (Nat → Int64) → (Nat → Int64) → Option (Int32 × (Nat → Int32) × (Nat → Int64) × (Nat → Int64))) (hrc41 : ∀ (v37 : Int32) (v38 : (Nat → Int32)) (v39 : (Nat → Int64)) (v40 : (Nat → Int64)), jo X 6 (0, 0) (jQI X (fun (u : (Nat → Int32) × (Nat → Int64) × (Nat → Int64)) => [(h_, .inr (5, [g_rules, g_input, g_weights, .ref h_words])), (h_words, .inr (10, [.ref h_words_costs, .ref h_words_highs, .ref h_words_lows])), (h_words_costs, .inl (tc.1, 1469, .inl u.1)), (h_words_highs, .inl (tc.2.1, 1469, .inr (.inl u.2.1))), (h_words_lows, .inl (tc.2.1, 1469, .inr (.inl u.2.2)))])) (rc41 v37 v38 v39 v40) [(h_, .inr (5, [g_rules, g_input, g_weights, .ref h_words])), (h_words, .inr (10, [.ref h_words_costs, .ref h_words_highs, .ref h_words_lows])), (h_words_costs, .inl (tc.1, 1469, .inl v38)), (h_words_highs, .inl (tc.2.1, 1469, .inr (.inl v39))), (h_words_lows, .inl (tc.2.1, 1469, .inr (.inl v40)))] 3 [(0, .ref h_), (1, .int p1), (2, .int p2), (3, .int p3), (4, .int v37)] []) (v37 : Int32) (v38 : (Nat → Int32)) (v39 : (Nat → Int64)) (v40 : (Nat → Int64)) : jo X 6 (0, 0) (jQI X (fun (u : (Nat → Int32) × (Nat → Int64) × (Nat → Int64)) => [(h_, .inr (5, [g_rules, g_input, g_weights, .ref h_words])), (h_words, .inr (10, [.ref h_words_costs, .ref h_words_highs, .ref h_words_lows])), (h_words_costs, .inl (tc.1, 1469, .inl u.1)), (h_words_highs, .inl (tc.2.1, 1469, .inr (.inl u.2.1))), (h_words_lows, .inl (tc.2.1, 1469, .inr (.inl u.2.2)))])) (bX5_lowerBy_3 p3 k36 rc41 v37 v38 v39 v40) [(h_, .inr (5, [g_rules, g_input, g_weights, .ref h_words])), (h_words, .inr (10, [.ref h_words_costs, .ref h_words_highs, .ref h_words_lows])), (h_words_costs, .inl (tc.1, 1469, .inl v38)), (h_words_highs, .inl (tc.2.1, 1469, .inr (.inl v39))), (h_words_lows, .inl (tc.2.1, 1469, .inr (.inl v40)))] 3 [(0, .ref h_), (1, .int p1), (2, .int p2), (3, .int p3), (4, .int v37)] [] := by
  unfold bX5_lowerBy_3
  refine j_iload C d5_lowerBy_3 4 rfl ?_
  refine j_iload C d5_lowerBy_5 3 rfl ?_
  refine j_icmp_gt C d5_lowerBy_6 ?_ ?_
  · exact j_sub [0, 1, 2, 3] rfl (hk36 _ _ _)
  · refine j_aload C d5_lowerBy_9 0 rfl ?_
    refine j_get C d5_lowerBy_10 fl5_20 0 rfl rfl ?_
    refine j_const C d5_lowerBy_13 ?_
    refine j_iload C d5_lowerBy_16 4 rfl ?_
    refine j_iadd C d5_lowerBy_18 ?_
    refine j_callVV3 (As := [.int ((1458 : Int32) + v37)]) C d5_lowerBy_19 mv5_66 (kX10_putNone _ _ tc 1469 h_words h_words_costs h_words_highs h_words_lows v38 v39 v40 ((1458 : Int32) + v37)) ⟨rfl, rfl, Nat.le_of_ble_eq_true rfl, Nat.le_of_ble_eq_true rfl⟩ rfl 1 rfl [1, 2, 3, 4] rfl rfl rfl (Nat.le_of_ble_eq_true rfl) (fun o42 o43 o44 => [(h_, .inr (5, [g_rules, g_input, g_weights, .ref h_words])), (h_words, .inr (10, [.ref h_words_costs, .ref h_words_highs, .ref h_words_lows])), (h_words_costs, .inl (tc.1, 1469, .inl o42)), (h_words_highs, .inl (tc.2.1, 1469, .inr (.inl o43))), (h_words_lows, .inl (tc.2.1, 1469, .inr (.inl o44)))]) [(false, 0), (true, 0), (true, 1), (true, 2), (true, 3)] (fun _ => rfl) (by decide +kernel) (fun o42 o43 o44 => ?_)
    refine j_iincN C (fun x45 => [(4, .int x45), (0, .ref h_), (1, .int p1), (2, .int p2), (3, .int p3)]) d5_lowerBy_22 4 rfl (by decide +kernel) (by decide) (fun _ => rfl) (fun x45 => ?_)
    refine j_goto C d5_lowerBy_25 ?_
    exact j_sub [1, 2, 3, 4, 0] rfl (hrc41 _ _ _ _)

set_option maxHeartbeats 4000000 in
set_option maxRecDepth 100000 in
theorem kX5_lowerBy (l : Launch) (D : va_G) (tc : jTC) (N : Nat) (h_ h_words h_words_costs h_words_highs h_words_lows : Nat) (g_rules g_input g_weights : Value) (c_words_costs : (Nat → Int32)) (c_words_highs : (Nat → Int64)) (c_words_lows : (Nat → Int64)) (p1 : Int32) (p2 : Int32) (p3 : Int32) : ctI l D tc yX5_lowerBy (Cond.code yX5_lowerBy cX5_lowerBy 6 (some .boolean) :: jtb) ({ frames := 3, cells := 0, slots := 0, locals := 81 } : Room) [.ref h_, .int p1, .int p2, .int p3] [(h_, .inr (5, [g_rules, g_input, g_weights, .ref h_words])), (h_words, .inr (10, [.ref h_words_costs, .ref h_words_highs, .ref h_words_lows])), (h_words_costs, .inl (tc.1, 1469, .inl c_words_costs)), (h_words_highs, .inl (tc.2.1, 1469, .inr (.inl c_words_highs))), (h_words_lows, .inl (tc.2.1, 1469, .inr (.inl c_words_lows)))] (fX5_lowerBy N c_words_costs c_words_highs c_words_lows p1 p2 p3) (fun (u : (Nat → Int32) × (Nat → Int64) × (Nat → Int64)) => [(h_, .inr (5, [g_rules, g_input, g_weights, .ref h_words])), (h_words, .inr (10, [.ref h_words_costs, .ref h_words_highs, .ref h_words_lows])), (h_words_costs, .inl (tc.1, 1469, .inl u.1)), (h_words_highs, .inl (tc.2.1, 1469, .inr (.inl u.2.1))), (h_words_lows, .inl (tc.2.1, 1469, .inr (.inl u.2.2)))]) := by
  refine ctI_of (lv0 := [(0, .ref h_), (1, .int p1), (2, .int p2), (3, .int p3)]) (by decide +kernel) (Nat.le_of_ble_eq_true rfl) rfl (fun X C => ?_)
  unfold fX5_lowerBy
  refine j_iload C d5_lowerBy_0 2 rfl ?_
  refine j_istore C d5_lowerBy_1 (by decide) (lv' := [(4, .int p2), (0, .ref h_), (1, .int p1), (2, .int p2), (3, .int p3)]) rfl ?_
  refine j_join3 28 (fun v1 v2 v3 => [(h_, .inr (5, [g_rules, g_input, g_weights, .ref h_words])), (h_words, .inr (10, [.ref h_words_costs, .ref h_words_highs, .ref h_words_lows])), (h_words_costs, .inl (tc.1, 1469, .inl v1)), (h_words_highs, .inl (tc.2.1, 1469, .inr (.inl v2))), (h_words_lows, .inl (tc.2.1, 1469, .inr (.inl v3)))]) (fun v1 v2 v3 => [(0, .ref h_), (1, .int p1), (2, .int p2), (3, .int p3)]) (fun v1 v2 v3 => []) (fun v1 v2 v3 => ?_) (fun k36 hk36 => ?_)
  · refine j_aload C d5_lowerBy_28 0 rfl ?_
    refine j_get C d5_lowerBy_29 fl5_20 0 rfl rfl ?_
    refine j_const C d5_lowerBy_32 ?_
    refine j_iload C d5_lowerBy_35 2 rfl ?_
    refine j_iadd C d5_lowerBy_36 ?_
    refine j_callVV3 (As := [.int ((1458 : Int32) + p2)]) C d5_lowerBy_37 mv5_88 (kX10_putEmpty _ _ tc 1469 h_words h_words_costs h_words_highs h_words_lows v1 v2 v3 ((1458 : Int32) + p2)) ⟨rfl, rfl, Nat.le_of_ble_eq_true rfl, Nat.le_of_ble_eq_true rfl⟩ rfl 1 rfl [1, 2, 3, 4] rfl rfl rfl (Nat.le_of_ble_eq_true rfl) (fun o4 o5 o6 => [(h_, .inr (5, [g_rules, g_input, g_weights, .ref h_words])), (h_words, .inr (10, [.ref h_words_costs, .ref h_words_highs, .ref h_words_lows])), (h_words_costs, .inl (tc.1, 1469, .inl o4)), (h_words_highs, .inl (tc.2.1, 1469, .inr (.inl o5))), (h_words_lows, .inl (tc.2.1, 1469, .inr (.inl o6)))]) [(false, 0), (true, 0), (true, 1), (true, 2), (true, 3)] (fun _ => rfl) (by decide +kernel) (fun o4 o5 o6 => ?_)
    refine j_iload C d5_lowerBy_40 1 rfl ?_
    refine j_callSI0 (As := [.int p1]) C d5_lowerBy_41 ms5_91 (kX6_lengthOf _ _ tc p1) ⟨rfl, rfl, Nat.le_of_ble_eq_true rfl, Nat.le_of_ble_eq_true rfl⟩ rfl [] rfl rfl rfl (Nat.le_of_ble_eq_true rfl) (fun x7 => ?_)
    refine j_const C d5_lowerBy_44 ?_
    refine j_isub C d5_lowerBy_45 ?_
    refine j_leti (fun x8 => ?_)
    refine j_istore C d5_lowerBy_46 (by decide) (lv' := [(4, .int x8), (0, .ref h_), (1, .int p1), (2, .int p2), (3, .int p3)]) rfl ?_
    refine j_const C d5_lowerBy_48 ?_
    refine j_istore C d5_lowerBy_49 (by decide) (lv' := [(5, .int 0), (4, .int x8), (0, .ref h_), (1, .int p1), (2, .int p2), (3, .int p3)]) rfl ?_
    refine j_join3 98 (fun v9 v10 v11 => [(h_, .inr (5, [g_rules, g_input, g_weights, .ref h_words])), (h_words, .inr (10, [.ref h_words_costs, .ref h_words_highs, .ref h_words_lows])), (h_words_costs, .inl (tc.1, 1469, .inl v9)), (h_words_highs, .inl (tc.2.1, 1469, .inr (.inl v10))), (h_words_lows, .inl (tc.2.1, 1469, .inr (.inl v11)))]) (fun v9 v10 v11 => [(0, .ref h_), (1, .int p1), (2, .int p2), (3, .int p3)]) (fun v9 v10 v11 => []) (fun v9 v10 v11 => ?_) (fun k18 hk18 => ?_)
    · refine j_aload C d5_lowerBy_98 0 rfl ?_
      refine j_get C d5_lowerBy_99 fl5_20 0 rfl rfl ?_
      refine j_iload C d5_lowerBy_102 2 rfl ?_
      refine j_iload C d5_lowerBy_103 3 rfl ?_
      refine j_const C d5_lowerBy_104 ?_
      refine j_iload C d5_lowerBy_106 1 rfl ?_
      refine j_callSI0 (As := [.int p1]) C d5_lowerBy_107 ms5_99 (kX6_leftOf _ _ tc p1) ⟨rfl, rfl, Nat.le_of_ble_eq_true rfl, Nat.le_of_ble_eq_true rfl⟩ rfl [] rfl rfl rfl (Nat.le_of_ble_eq_true rfl) (fun x12 => ?_)
      refine j_iadd C d5_lowerBy_110 ?_
      refine j_callSI0 (As := [.int p2, .int p3, .int ((10 : Int32) + x12)]) C d5_lowerBy_111 ms5_48 (kX5_wordOf _ _ tc p2 p3 ((10 : Int32) + x12)) ⟨rfl, rfl, Nat.le_of_ble_eq_true rfl, Nat.le_of_ble_eq_true rfl⟩ rfl [] rfl rfl rfl (Nat.le_of_ble_eq_true rfl) (fun x13 => ?_)
      refine j_const C d5_lowerBy_114 ?_
      refine j_iload C d5_lowerBy_117 3 rfl ?_
      refine j_iadd C d5_lowerBy_118 ?_
      refine j_callVI4 (As := [.int x13, .int ((1458 : Int32) + p3)]) C d5_lowerBy_119 mv5_102 (kX10_lower _ _ tc 1469 h_words h_words_costs h_words_highs h_words_lows v9 v10 v11 x13 ((1458 : Int32) + p3)) ⟨rfl, rfl, Nat.le_of_ble_eq_true rfl, Nat.le_of_ble_eq_true rfl⟩ rfl 1 rfl [1, 2, 3, 4] rfl rfl rfl (Nat.le_of_ble_eq_true rfl) (fun o14 o15 o16 => [(h_, .inr (5, [g_rules, g_input, g_weights, .ref h_words])), (h_words, .inr (10, [.ref h_words_costs, .ref h_words_highs, .ref h_words_lows])), (h_words_costs, .inl (tc.1, 1469, .inl o14)), (h_words_highs, .inl (tc.2.1, 1469, .inr (.inl o15))), (h_words_lows, .inl (tc.2.1, 1469, .inr (.inl o16)))]) [(false, 0), (true, 0), (true, 1), (true, 2), (true, 3)] (fun _ => rfl) (by decide +kernel) (fun o17 o14 o15 o16 => ?_)
      refine j_gz (fun hz => ?_)
      exact j_zret C hz d5_lowerBy_122 rfl
    · exact j_sub [2, 3, 4, 5, 1, 0] rfl (j_loop4 (fun v19 v20 v21 v22 => [(h_, .inr (5, [g_rules, g_input, g_weights, .ref h_words])), (h_words, .inr (10, [.ref h_words_costs, .ref h_words_highs, .ref h_words_lows])), (h_words_costs, .inl (tc.1, 1469, .inl v20)), (h_words_highs, .inl (tc.2.1, 1469, .inr (.inl v21))), (h_words_lows, .inl (tc.2.1, 1469, .inr (.inl v22)))]) (fun v19 v20 v21 v22 => [(0, .ref h_), (1, .int p1), (2, .int p2), (3, .int p3), (4, .int x8), (5, .int v19)]) (fun rc23 hrc23 v19 v20 v21 v22 => wX5_lowerBy_51 C N h_ h_words h_words_costs h_words_highs h_words_lows g_rules g_input g_weights p1 p2 p3 x8 k18 hk18 rc23 hrc23 v19 v20 v21 v22) N _ _ _ _)
  · exact j_sub [1, 2, 3, 4, 0] rfl (j_loop4 (fun v37 v38 v39 v40 => [(h_, .inr (5, [g_rules, g_input, g_weights, .ref h_words])), (h_words, .inr (10, [.ref h_words_costs, .ref h_words_highs, .ref h_words_lows])), (h_words_costs, .inl (tc.1, 1469, .inl v38)), (h_words_highs, .inl (tc.2.1, 1469, .inr (.inl v39))), (h_words_lows, .inl (tc.2.1, 1469, .inr (.inl v40)))]) (fun v37 v38 v39 v40 => [(0, .ref h_), (1, .int p1), (2, .int p2), (3, .int p3), (4, .int v37)]) (fun rc41 hrc41 v37 v38 v39 v40 => wX5_lowerBy_3 C h_ h_words h_words_costs h_words_highs h_words_lows g_rules g_input g_weights p1 p2 p3 k36 hk36 rc41 hrc41 v37 v38 v39 v40) N _ _ _ _)

