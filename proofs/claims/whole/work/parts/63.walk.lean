theorem d4_begin_0 : jda cX4_begin 0 0 1 := Or.inl ⟨0, by decide +kernel⟩
theorem d4_begin_1 : jdk cX4_begin 1 0 2 := Or.inl ⟨0, by decide +kernel⟩
theorem d4_begin_2 : jd cX4_begin 2 (.putfield 122) 3 5 := by decide +kernel
theorem d4_begin_5 : jda cX4_begin 5 0 6 := Or.inl ⟨0, by decide +kernel⟩
theorem d4_begin_6 : jd cX4_begin 6 (.getfield 21) 3 9 := by decide +kernel
theorem d4_begin_9 : jdk cX4_begin 9 0 10 := Or.inl ⟨0, by decide +kernel⟩
theorem d4_begin_10 : jd cX4_begin 10 (.putfield 125) 3 13 := by decide +kernel
theorem d4_begin_13 : jda cX4_begin 13 0 14 := Or.inl ⟨0, by decide +kernel⟩
theorem d4_begin_14 : jdk cX4_begin 14 0 15 := Or.inl ⟨0, by decide +kernel⟩
theorem d4_begin_15 : jd cX4_begin 15 (.putfield 82) 3 18 := by decide +kernel
theorem d4_begin_18 : jda cX4_begin 18 0 19 := Or.inl ⟨0, by decide +kernel⟩
theorem d4_begin_19 : jdk cX4_begin 19 0 20 := Or.inl ⟨0, by decide +kernel⟩
theorem d4_begin_20 : jd cX4_begin 20 (.putfield 93) 3 23 := by decide +kernel
theorem d4_begin_23 : jda cX4_begin 23 0 24 := Or.inl ⟨0, by decide +kernel⟩
theorem d4_begin_24 : jdk cX4_begin 24 0 25 := Or.inl ⟨0, by decide +kernel⟩
theorem d4_begin_25 : jd cX4_begin 25 (.putfield 57) 3 28 := by decide +kernel
theorem d4_begin_28 : jda cX4_begin 28 0 29 := Or.inl ⟨0, by decide +kernel⟩
theorem d4_begin_29 : jdk cX4_begin 29 10 31 := Or.inr (Or.inl ⟨10, by decide +kernel⟩)
theorem d4_begin_31 : jdk cX4_begin 31 (-1) 32 := Or.inl ⟨(-1), by decide +kernel⟩
theorem d4_begin_32 : jd cX4_begin 32 (.invokevirtual 128) 3 35 := by decide +kernel
theorem d4_begin_35 : decode cX4_begin 35 = .ok (.return_, 1) := by decide +kernel
set_option maxHeartbeats 4000000 in
set_option maxRecDepth 100000 in
theorem kX4_begin (l : Launch) (D : va_G) (tc : jTC) (h_ h_tree h_stack h_bringers : Nat) (g_rules g_sets g_table g_input g_synchronizing g_trace g_errorParts g_errorCount g_tree_symbols g_tree_parents g_tree_heights : Value) (c_traceLength : Int32) (c_tree_count : Int32) (c_stack : (Nat → Int32)) (c_bringers : (Nat → Int32)) (c_depth : Int32) (c_index : Int32) (c_steps : Int32) : ctV l D tc yX4_begin (Cond.code yX4_begin cX4_begin 1 none :: jtb) ({ frames := 1, cells := 0, slots := 0, locals := 22 } : Room) [.ref h_] [(h_, .inr (4, [g_rules, g_sets, g_table, g_input, g_synchronizing, g_trace, .int c_traceLength, .ref h_tree, g_errorParts, g_errorCount, .ref h_stack, .ref h_bringers, .int c_depth, .int c_index, .int c_steps])), (h_tree, .inr (9, [g_tree_symbols, g_tree_parents, g_tree_heights, .int c_tree_count])), (h_stack, .inl (tc.1, 65, .inl c_stack)), (h_bringers, .inl (tc.1, 65, .inl c_bringers))] (fX4_begin c_traceLength c_tree_count c_stack c_bringers c_depth c_index c_steps) (fun (u : Int32 × Int32 × (Nat → Int32) × (Nat → Int32) × Int32 × Int32 × Int32) => [(h_, .inr (4, [g_rules, g_sets, g_table, g_input, g_synchronizing, g_trace, .int u.1, .ref h_tree, g_errorParts, g_errorCount, .ref h_stack, .ref h_bringers, .int u.2.2.2.2.1, .int u.2.2.2.2.2.1, .int u.2.2.2.2.2.2])), (h_tree, .inr (9, [g_tree_symbols, g_tree_parents, g_tree_heights, .int u.2.1])), (h_stack, .inl (tc.1, 65, .inl u.2.2.1)), (h_bringers, .inl (tc.1, 65, .inl u.2.2.2.1))]) := by
  refine ctV_of (lv0 := [(0, .ref h_)]) (by decide +kernel) (Nat.le_of_ble_eq_true rfl) rfl (fun X C => ?_)
  unfold fX4_begin
  refine j_aload C d4_begin_0 0 rfl ?_
  refine j_const C d4_begin_1 ?_
  refine j_putq C d4_begin_2 fq4_122 0 rfl rfl rfl (Nat.le_of_ble_eq_true rfl) (ws' := [(h_, .inr (4, [g_rules, g_sets, g_table, g_input, g_synchronizing, g_trace, .int 0, .ref h_tree, g_errorParts, g_errorCount, .ref h_stack, .ref h_bringers, .int c_depth, .int c_index, .int c_steps])), (h_tree, .inr (9, [g_tree_symbols, g_tree_parents, g_tree_heights, .int c_tree_count])), (h_stack, .inl (tc.1, 65, .inl c_stack)), (h_bringers, .inl (tc.1, 65, .inl c_bringers))]) rfl ?_
  refine j_aload C d4_begin_5 0 rfl ?_
  refine j_get C d4_begin_6 fl4_21 0 rfl rfl ?_
  refine j_const C d4_begin_9 ?_
  refine j_putq C d4_begin_10 fq4_125 1 rfl rfl rfl (Nat.le_of_ble_eq_true rfl) (ws' := [(h_, .inr (4, [g_rules, g_sets, g_table, g_input, g_synchronizing, g_trace, .int 0, .ref h_tree, g_errorParts, g_errorCount, .ref h_stack, .ref h_bringers, .int c_depth, .int c_index, .int c_steps])), (h_tree, .inr (9, [g_tree_symbols, g_tree_parents, g_tree_heights, .int 0])), (h_stack, .inl (tc.1, 65, .inl c_stack)), (h_bringers, .inl (tc.1, 65, .inl c_bringers))]) rfl ?_
  refine j_aload C d4_begin_13 0 rfl ?_
  refine j_const C d4_begin_14 ?_
  refine j_putq C d4_begin_15 fq4_82 0 rfl rfl rfl (Nat.le_of_ble_eq_true rfl) (ws' := [(h_, .inr (4, [g_rules, g_sets, g_table, g_input, g_synchronizing, g_trace, .int 0, .ref h_tree, g_errorParts, g_errorCount, .ref h_stack, .ref h_bringers, .int 0, .int c_index, .int c_steps])), (h_tree, .inr (9, [g_tree_symbols, g_tree_parents, g_tree_heights, .int 0])), (h_stack, .inl (tc.1, 65, .inl c_stack)), (h_bringers, .inl (tc.1, 65, .inl c_bringers))]) rfl ?_
  refine j_aload C d4_begin_18 0 rfl ?_
  refine j_const C d4_begin_19 ?_
  refine j_putq C d4_begin_20 fq4_93 0 rfl rfl rfl (Nat.le_of_ble_eq_true rfl) (ws' := [(h_, .inr (4, [g_rules, g_sets, g_table, g_input, g_synchronizing, g_trace, .int 0, .ref h_tree, g_errorParts, g_errorCount, .ref h_stack, .ref h_bringers, .int 0, .int 0, .int c_steps])), (h_tree, .inr (9, [g_tree_symbols, g_tree_parents, g_tree_heights, .int 0])), (h_stack, .inl (tc.1, 65, .inl c_stack)), (h_bringers, .inl (tc.1, 65, .inl c_bringers))]) rfl ?_
  refine j_aload C d4_begin_23 0 rfl ?_
  refine j_const C d4_begin_24 ?_
  refine j_putq C d4_begin_25 fq4_57 0 rfl rfl rfl (Nat.le_of_ble_eq_true rfl) (ws' := [(h_, .inr (4, [g_rules, g_sets, g_table, g_input, g_synchronizing, g_trace, .int 0, .ref h_tree, g_errorParts, g_errorCount, .ref h_stack, .ref h_bringers, .int 0, .int 0, .int 0])), (h_tree, .inr (9, [g_tree_symbols, g_tree_parents, g_tree_heights, .int 0])), (h_stack, .inl (tc.1, 65, .inl c_stack)), (h_bringers, .inl (tc.1, 65, .inl c_bringers))]) rfl ?_
  refine j_aload C d4_begin_28 0 rfl ?_
  refine j_const C d4_begin_29 ?_
  refine j_const C d4_begin_31 ?_
  refine j_callVV3 (As := [.int 10, .int (-1)]) C d4_begin_32 mv4_128 (kX4_push _ _ tc h_ h_stack h_bringers g_rules g_sets g_table g_input g_synchronizing g_trace (.int 0) (.ref h_tree) g_errorParts g_errorCount (.int 0) (.int 0) c_stack c_bringers 0 10 (-1)) ⟨rfl, rfl, Nat.le_of_ble_eq_true rfl, Nat.le_of_ble_eq_true rfl⟩ rfl 0 rfl [0, 2, 3] rfl rfl rfl (Nat.le_of_ble_eq_true rfl) (fun o1 o2 o3 => [(h_, .inr (4, [g_rules, g_sets, g_table, g_input, g_synchronizing, g_trace, .int 0, .ref h_tree, g_errorParts, g_errorCount, .ref h_stack, .ref h_bringers, .int o3, .int 0, .int 0])), (h_tree, .inr (9, [g_tree_symbols, g_tree_parents, g_tree_heights, .int 0])), (h_stack, .inl (tc.1, 65, .inl o1)), (h_bringers, .inl (tc.1, 65, .inl o2))]) [(true, 0), (false, 1), (true, 1), (true, 2)] (fun _ => rfl) (by decide +kernel) (fun o1 o2 o3 => ?_)
  exact j_vret C d4_begin_35 rfl

theorem d4_token_0 : jda cX4_token 0 0 1 := Or.inl ⟨0, by decide +kernel⟩
theorem d4_token_1 : jd cX4_token 1 (.getfield 46) 3 4 := by decide +kernel
theorem d4_token_4 : jda cX4_token 4 0 5 := Or.inl ⟨0, by decide +kernel⟩
theorem d4_token_5 : jd cX4_token 5 (.getfield 93) 3 8 := by decide +kernel
theorem d4_token_8 : jd cX4_token 8 (.invokevirtual 131) 3 11 := by decide +kernel
theorem d4_token_11 : decode cX4_token 11 = .ok (.ireturn, 1) := by decide +kernel
set_option maxHeartbeats 4000000 in
set_option maxRecDepth 100000 in
theorem kX4_token (l : Launch) (D : va_G) (tc : jTC) (h_ h_input h_input_terminals : Nat) (g_rules g_sets g_table g_synchronizing g_trace g_traceLength g_tree g_errorParts g_errorCount g_stack g_bringers g_depth g_steps : Value) (c_input_terminals : (Nat → Int32)) (c_input_length : Int32) (c_index : Int32) : ctI0 l D tc yX4_token (Cond.code yX4_token cX4_token 1 (some .int) :: jtb) ({ frames := 1, cells := 0, slots := 0, locals := 21 } : Room) [.ref h_] [(h_, .inr (4, [g_rules, g_sets, g_table, .ref h_input, g_synchronizing, g_trace, g_traceLength, g_tree, g_errorParts, g_errorCount, g_stack, g_bringers, g_depth, .int c_index, g_steps])), (h_input, .inr (3, [.ref h_input_terminals, .int c_input_length])), (h_input_terminals, .inl (tc.1, 40, .inl c_input_terminals))] (fX4_token c_input_terminals c_input_length c_index) := by
  refine ctI0_of (lv0 := [(0, .ref h_)]) (by decide +kernel) (Nat.le_of_ble_eq_true rfl) rfl (fun X C => ?_)
  unfold fX4_token
  refine j_aload C d4_token_0 0 rfl ?_
  refine j_get C d4_token_1 fl4_46 0 rfl rfl ?_
  refine j_aload C d4_token_4 0 rfl ?_
  refine j_get C d4_token_5 fl4_93 0 rfl rfl ?_
  refine j_callVI0 (As := [.int c_index]) C d4_token_8 mv4_131 (kX3_tokenAt _ _ tc h_input h_input_terminals c_input_terminals c_input_length c_index) ⟨rfl, rfl, Nat.le_of_ble_eq_true rfl, Nat.le_of_ble_eq_true rfl⟩ rfl 1 rfl [1, 2] rfl rfl rfl (Nat.le_of_ble_eq_true rfl) (fun x1 => ?_)
  exact j_iret0 C d4_token_11

theorem d4_accepts_0 : jda cX4_accepts 0 0 1 := Or.inl ⟨0, by decide +kernel⟩
theorem d4_accepts_1 : jd cX4_accepts 1 (.getfield 82) 3 4 := by decide +kernel
theorem d4_accepts_4 : jdb cX4_accepts 4 (.ifCond .ne 16) 16 20 7 := by decide +kernel
theorem d4_accepts_7 : jda cX4_accepts 7 0 8 := Or.inl ⟨0, by decide +kernel⟩
theorem d4_accepts_8 : jd cX4_accepts 8 (.invokevirtual 134) 3 11 := by decide +kernel
theorem d4_accepts_11 : jdk cX4_accepts 11 8 13 := Or.inr (Or.inl ⟨8, by decide +kernel⟩)
theorem d4_accepts_13 : jdb cX4_accepts 13 (.if_icmp .ne 7) 7 20 16 := by decide +kernel
theorem d4_accepts_16 : jdk cX4_accepts 16 1 17 := Or.inl ⟨1, by decide +kernel⟩
theorem d4_accepts_17 : jdb cX4_accepts 17 (.goto 4) 4 21 20 := by decide +kernel
theorem d4_accepts_20 : jdk cX4_accepts 20 0 21 := Or.inl ⟨0, by decide +kernel⟩
theorem d4_accepts_21 : decode cX4_accepts 21 = .ok (.ireturn, 1) := by decide +kernel
set_option maxHeartbeats 4000000 in
set_option maxRecDepth 100000 in
theorem kX4_accepts (l : Launch) (D : va_G) (tc : jTC) (h_ h_input h_input_terminals : Nat) (g_rules g_sets g_table g_synchronizing g_trace g_traceLength g_tree g_errorParts g_errorCount g_stack g_bringers g_steps : Value) (c_input_terminals : (Nat → Int32)) (c_input_length : Int32) (c_depth : Int32) (c_index : Int32) : ctI0 l D tc yX4_accepts (Cond.code yX4_accepts cX4_accepts 1 (some .boolean) :: jtb) ({ frames := 2, cells := 0, slots := 0, locals := 41 } : Room) [.ref h_] [(h_, .inr (4, [g_rules, g_sets, g_table, .ref h_input, g_synchronizing, g_trace, g_traceLength, g_tree, g_errorParts, g_errorCount, g_stack, g_bringers, .int c_depth, .int c_index, g_steps])), (h_input, .inr (3, [.ref h_input_terminals, .int c_input_length])), (h_input_terminals, .inl (tc.1, 40, .inl c_input_terminals))] (fX4_accepts c_input_terminals c_input_length c_depth c_index) := by
  refine ctI0_of (lv0 := [(0, .ref h_)]) (by decide +kernel) (Nat.le_of_ble_eq_true rfl) rfl (fun X C => ?_)
  unfold fX4_accepts
  refine j_aload C d4_accepts_0 0 rfl ?_
  refine j_get C d4_accepts_1 fl4_82 0 rfl rfl ?_
  refine j_join 21 (fun v1 => [(h_, .inr (4, [g_rules, g_sets, g_table, .ref h_input, g_synchronizing, g_trace, g_traceLength, g_tree, g_errorParts, g_errorCount, g_stack, g_bringers, .int c_depth, .int c_index, g_steps])), (h_input, .inr (3, [.ref h_input_terminals, .int c_input_length])), (h_input_terminals, .inl (tc.1, 40, .inl c_input_terminals))]) (fun v1 => []) (fun v1 => [.int v1]) (fun v1 => ?_) (fun k2 hk2 => ?_)
  · refine j_gz (fun hz => ?_)
    exact j_zret0 C hz d4_accepts_21
  · refine j_join 20 (fun v3 => [(h_, .inr (4, [g_rules, g_sets, g_table, .ref h_input, g_synchronizing, g_trace, g_traceLength, g_tree, g_errorParts, g_errorCount, g_stack, g_bringers, .int c_depth, .int c_index, g_steps])), (h_input, .inr (3, [.ref h_input_terminals, .int c_input_length])), (h_input_terminals, .inl (tc.1, 40, .inl c_input_terminals))]) (fun v3 => []) (fun v3 => []) (fun v3 => ?_) (fun k4 hk4 => ?_)
    · refine j_const C d4_accepts_20 ?_
      exact hk2 _
    · refine j_if_ne C d4_accepts_4 ?_ ?_
      · exact j_sub [] rfl (hk4 _)
      · refine j_aload C d4_accepts_7 0 rfl ?_
        refine j_callVI0 (As := []) C d4_accepts_8 mv4_134 (kX4_token _ _ tc h_ h_input h_input_terminals g_rules g_sets g_table g_synchronizing g_trace g_traceLength g_tree g_errorParts g_errorCount g_stack g_bringers (.int c_depth) g_steps c_input_terminals c_input_length c_index) ⟨rfl, rfl, Nat.le_of_ble_eq_true rfl, Nat.le_of_ble_eq_true rfl⟩ rfl 0 rfl [0, 1, 2] rfl rfl rfl (Nat.le_of_ble_eq_true rfl) (fun x5 => ?_)
        refine j_const C d4_accepts_11 ?_
        refine j_icmp_ne C d4_accepts_13 ?_ ?_
        · exact j_sub [] rfl (hk4 _)
        · refine j_const C d4_accepts_16 ?_
          refine j_goto C d4_accepts_17 ?_
          exact j_sub [] rfl (hk2 _)

theorem d9_has_0 : jdi cX9_has 0 1 1 := Or.inl ⟨1, by decide +kernel⟩
theorem d9_has_1 : jdb cX9_has 1 (.ifCond .lt 15) 15 16 4 := by decide +kernel
theorem d9_has_4 : jdi cX9_has 4 1 5 := Or.inl ⟨1, by decide +kernel⟩
theorem d9_has_5 : jda cX9_has 5 0 6 := Or.inl ⟨0, by decide +kernel⟩
theorem d9_has_6 : jd cX9_has 6 (.getfield 21) 3 9 := by decide +kernel
theorem d9_has_9 : jdb cX9_has 9 (.if_icmp .ge 7) 7 16 12 := by decide +kernel
theorem d9_has_12 : jdk cX9_has 12 1 13 := Or.inl ⟨1, by decide +kernel⟩
theorem d9_has_13 : jdb cX9_has 13 (.goto 4) 4 17 16 := by decide +kernel
theorem d9_has_16 : jdk cX9_has 16 0 17 := Or.inl ⟨0, by decide +kernel⟩
theorem d9_has_17 : decode cX9_has 17 = .ok (.ireturn, 1) := by decide +kernel
set_option maxHeartbeats 4000000 in
set_option maxRecDepth 100000 in
theorem kX9_has (l : Launch) (D : va_G) (tc : jTC) (h_ : Nat) (g_symbols g_parents g_heights : Value) (c_count : Int32) (p1 : Int32) : ctI0 l D tc yX9_has (Cond.code yX9_has cX9_has 2 (some .boolean) :: jtb) ({ frames := 0, cells := 0, slots := 0, locals := 0 } : Room) [.ref h_, .int p1] [(h_, .inr (9, [g_symbols, g_parents, g_heights, .int c_count]))] (fX9_has c_count p1) := by
  refine ctI0_of (lv0 := [(0, .ref h_), (1, .int p1)]) (by decide +kernel) (Nat.le_of_ble_eq_true rfl) rfl (fun X C => ?_)
  unfold fX9_has
  refine j_iload C d9_has_0 1 rfl ?_
  refine j_join 17 (fun v1 => [(h_, .inr (9, [g_symbols, g_parents, g_heights, .int c_count]))]) (fun v1 => []) (fun v1 => [.int v1]) (fun v1 => ?_) (fun k2 hk2 => ?_)
  · refine j_gz (fun hz => ?_)
    exact j_zret0 C hz d9_has_17
  · refine j_join 16 (fun v3 => [(h_, .inr (9, [g_symbols, g_parents, g_heights, .int c_count]))]) (fun v3 => []) (fun v3 => []) (fun v3 => ?_) (fun k4 hk4 => ?_)
    · refine j_const C d9_has_16 ?_
      exact hk2 _
    · refine j_if_lt C d9_has_1 ?_ ?_
      · exact j_sub [] rfl (hk4 _)
      · refine j_iload C d9_has_4 1 rfl ?_
        refine j_aload C d9_has_5 0 rfl ?_
        refine j_get C d9_has_6 fl9_21 0 rfl rfl ?_
        refine j_icmp_ge C d9_has_9 ?_ ?_
        · exact j_sub [] rfl (hk4 _)
        · refine j_const C d9_has_12 ?_
          refine j_goto C d9_has_13 ?_
          exact j_sub [] rfl (hk2 _)

theorem d9_finish_0 : jda cX9_finish 0 0 1 := Or.inl ⟨0, by decide +kernel⟩
theorem d9_finish_1 : jdi cX9_finish 1 1 2 := Or.inl ⟨1, by decide +kernel⟩
theorem d9_finish_2 : jdk cX9_finish 2 300 5 := Or.inr (Or.inr ⟨300, by decide +kernel⟩)
theorem d9_finish_5 : jd cX9_finish 5 (.invokestatic 25) 3 8 := by decide +kernel
theorem d9_finish_8 : jd cX9_finish 8 (.putfield 21) 3 11 := by decide +kernel
theorem d9_finish_11 : jda cX9_finish 11 0 12 := Or.inl ⟨0, by decide +kernel⟩
theorem d9_finish_12 : jd cX9_finish 12 (.getfield 21) 3 15 := by decide +kernel
theorem d9_finish_15 : jdk cX9_finish 15 1 16 := Or.inl ⟨1, by decide +kernel⟩
theorem d9_finish_16 : jd cX9_finish 16 (.isub) 1 17 := by decide +kernel
theorem d9_finish_17 : jds cX9_finish 17 2 18 := Or.inl ⟨2, by decide +kernel⟩
theorem d9_finish_18 : jdi cX9_finish 18 2 19 := Or.inl ⟨2, by decide +kernel⟩
theorem d9_finish_19 : jdb cX9_finish 19 (.ifCond .le 47) 47 66 22 := by decide +kernel
theorem d9_finish_22 : jda cX9_finish 22 0 23 := Or.inl ⟨0, by decide +kernel⟩
theorem d9_finish_23 : jd cX9_finish 23 (.getfield 15) 3 26 := by decide +kernel
theorem d9_finish_26 : jdi cX9_finish 26 2 27 := Or.inl ⟨2, by decide +kernel⟩
theorem d9_finish_27 : jd cX9_finish 27 (.iaload) 1 28 := by decide +kernel
theorem d9_finish_28 : jds cX9_finish 28 3 29 := Or.inl ⟨3, by decide +kernel⟩
theorem d9_finish_29 : jda cX9_finish 29 0 30 := Or.inl ⟨0, by decide +kernel⟩
theorem d9_finish_30 : jdi cX9_finish 30 3 31 := Or.inl ⟨3, by decide +kernel⟩
theorem d9_finish_31 : jd cX9_finish 31 (.invokevirtual 31) 3 34 := by decide +kernel
theorem d9_finish_34 : jdb cX9_finish 34 (.ifCond .eq 26) 26 60 37 := by decide +kernel
theorem d9_finish_37 : jda cX9_finish 37 0 38 := Or.inl ⟨0, by decide +kernel⟩
theorem d9_finish_38 : jd cX9_finish 38 (.getfield 18) 3 41 := by decide +kernel
theorem d9_finish_41 : jdi cX9_finish 41 3 42 := Or.inl ⟨3, by decide +kernel⟩
theorem d9_finish_42 : jda cX9_finish 42 0 43 := Or.inl ⟨0, by decide +kernel⟩
theorem d9_finish_43 : jd cX9_finish 43 (.getfield 18) 3 46 := by decide +kernel
theorem d9_finish_46 : jdi cX9_finish 46 3 47 := Or.inl ⟨3, by decide +kernel⟩
theorem d9_finish_47 : jd cX9_finish 47 (.iaload) 1 48 := by decide +kernel
theorem d9_finish_48 : jda cX9_finish 48 0 49 := Or.inl ⟨0, by decide +kernel⟩
theorem d9_finish_49 : jd cX9_finish 49 (.getfield 18) 3 52 := by decide +kernel
theorem d9_finish_52 : jdi cX9_finish 52 2 53 := Or.inl ⟨2, by decide +kernel⟩
theorem d9_finish_53 : jd cX9_finish 53 (.iaload) 1 54 := by decide +kernel
theorem d9_finish_54 : jdk cX9_finish 54 1 55 := Or.inl ⟨1, by decide +kernel⟩
theorem d9_finish_55 : jd cX9_finish 55 (.iadd) 1 56 := by decide +kernel
theorem d9_finish_56 : jd cX9_finish 56 (.invokestatic 35) 3 59 := by decide +kernel
theorem d9_finish_59 : jd cX9_finish 59 (.iastore) 1 60 := by decide +kernel
theorem d9_finish_60 : jd cX9_finish 60 (.iinc 2 (-1)) 3 63 := by decide +kernel
theorem d9_finish_63 : jdb cX9_finish 63 (.goto (-45)) (-45) 18 66 := by decide +kernel
theorem d9_finish_66 : decode cX9_finish 66 = .ok (.return_, 1) := by decide +kernel
set_option maxHeartbeats 4000000 in
set_option maxRecDepth 100000 in
theorem wX9_finish_18 {X : jC} {tc : jTC} (C : jx X cX9_finish 4 RX9 none tc ({ frames := 1, cells := 0, slots := 0, locals := 40 } : Room)) (h_ h_parents h_heights : Nat) (g_symbols : Value) (c_parents : (Nat → Int32)) (x1 : Int32) (k4 : ((Nat → Int32) → Option ((Nat → Int32) × Int32))) (hk4 : ∀ (v16 : (Nat → Int32)), jo X 4 (0, 0) (jQV X (fun (u : (Nat → Int32) × Int32) => [(h_, .inr (9, [g_symbols, .ref h_parents, .ref h_heights, .int u.2])), (h_parents, .inl (tc.1, 300, .inl c_parents)), (h_heights, .inl (tc.1, 300, .inl u.1))])) (k4 v16) [(h_, .inr (9, [g_symbols, .ref h_parents, .ref h_heights, .int x1])), (h_parents, .inl (tc.1, 300, .inl c_parents)), (h_heights, .inl (tc.1, 300, .inl v16))] 66 [] []) (rc7 : Int32 → (Nat → Int32) → Option ((Nat → Int32) × Int32)) (hrc7 : ∀ (v5 : Int32) (v6 : (Nat → Int32)), jo X 4 (0, 0) (jQV X (fun (u : (Nat → Int32) × Int32) => [(h_, .inr (9, [g_symbols, .ref h_parents, .ref h_heights, .int u.2])), (h_parents, .inl (tc.1, 300, .inl c_parents)), (h_heights, .inl (tc.1, 300, .inl u.1))])) (rc7 v5 v6) [(h_, .inr (9, [g_symbols, .ref h_parents, .ref h_heights, .int x1])), (h_parents, .inl (tc.1, 300, .inl c_parents)), (h_heights, .inl (tc.1, 300, .inl v6))] 18 [(0, .ref h_), (2, .int v5)] []) (v5 : Int32) (v6 : (Nat → Int32)) : jo X 4 (0, 0) (jQV X (fun (u : (Nat → Int32) × Int32) => [(h_, .inr (9, [g_symbols, .ref h_parents, .ref h_heights, .int u.2])), (h_parents, .inl (tc.1, 300, .inl c_parents)), (h_heights, .inl (tc.1, 300, .inl u.1))])) (bX9_finish_18 c_parents x1 k4 rc7 v5 v6) [(h_, .inr (9, [g_symbols, .ref h_parents, .ref h_heights, .int x1])), (h_parents, .inl (tc.1, 300, .inl c_parents)), (h_heights, .inl (tc.1, 300, .inl v6))] 18 [(0, .ref h_), (2, .int v5)] [] := by
  unfold bX9_finish_18
  refine j_iload C d9_finish_18 1 rfl ?_
  refine j_if_le C d9_finish_19 ?_ ?_
  · exact j_sub [] rfl (hk4 _)
  · refine j_aload C d9_finish_22 0 rfl ?_
    refine j_get C d9_finish_23 fl9_15 0 rfl rfl ?_
    refine j_iload C d9_finish_26 1 rfl ?_
    refine j_iald C d9_finish_27 1 rfl (fun x8 => ?_)
    refine j_istore C d9_finish_28 (by decide) (lv' := [(3, .int x8), (0, .ref h_), (2, .int v5)]) rfl ?_
    refine j_aload C d9_finish_29 1 rfl ?_
    refine j_iload C d9_finish_30 0 rfl ?_
    refine j_callVI0 (As := [.int x8]) C d9_finish_31 mv9_31 (kX9_has _ _ tc h_ g_symbols (.ref h_parents) (.ref h_heights) x1 x8) ⟨rfl, rfl, Nat.le_of_ble_eq_true rfl, Nat.le_of_ble_eq_true rfl⟩ rfl 0 rfl [0] rfl rfl rfl (Nat.le_of_ble_eq_true rfl) (fun x9 => ?_)
    refine j_join 60 (fun v10 => [(h_, .inr (9, [g_symbols, .ref h_parents, .ref h_heights, .int x1])), (h_parents, .inl (tc.1, 300, .inl c_parents)), (h_heights, .inl (tc.1, 300, .inl v10))]) (fun v10 => [(0, .ref h_), (2, .int v5)]) (fun v10 => []) (fun v10 => ?_) (fun k12 hk12 => ?_)
    · refine j_iincN C (fun x11 => [(2, .int x11), (0, .ref h_)]) d9_finish_60 1 rfl (by decide +kernel) (by decide) (fun _ => rfl) (fun x11 => ?_)
      refine j_goto C d9_finish_63 ?_
      exact j_sub [1, 0] rfl (hrc7 _ _)
    · refine j_if_eq C d9_finish_34 ?_ ?_
      · exact j_sub [1, 2] rfl (hk12 _)
      · refine j_aload C d9_finish_37 1 rfl ?_
        refine j_get C d9_finish_38 fl9_18 0 rfl rfl ?_
        refine j_iload C d9_finish_41 0 rfl ?_
        refine j_aload C d9_finish_42 1 rfl ?_
        refine j_get C d9_finish_43 fl9_18 0 rfl rfl ?_
        refine j_iload C d9_finish_46 0 rfl ?_
        refine j_iald C d9_finish_47 2 rfl (fun x13 => ?_)
        refine j_aload C d9_finish_48 1 rfl ?_
        refine j_get C d9_finish_49 fl9_18 0 rfl rfl ?_
        refine j_iload C d9_finish_52 2 rfl ?_
        refine j_iald C d9_finish_53 2 rfl (fun x14 => ?_)
        refine j_const C d9_finish_54 ?_
        refine j_iadd C d9_finish_55 ?_
        refine j_mmax C d9_finish_56 kj9_35 rfl ⟨Nat.le_of_ble_eq_true rfl, Nat.le_of_ble_eq_true rfl⟩ (Nat.le_of_ble_eq_true rfl) ?_
        refine j_iast C (fun f15 => [(h_, .inr (9, [g_symbols, .ref h_parents, .ref h_heights, .int x1])), (h_parents, .inl (tc.1, 300, .inl c_parents)), (h_heights, .inl (tc.1, 300, .inl f15))]) d9_finish_59 2 rfl (fun _ => rfl) (fun f15 => ?_)
        exact j_sub [1, 2] rfl (hk12 _)

set_option maxHeartbeats 4000000 in
set_option maxRecDepth 100000 in
theorem kX9_finish (l : Launch) (D : va_G) (tc : jTC) (N : Nat) (h_ h_parents h_heights : Nat) (g_symbols : Value) (c_parents : (Nat → Int32)) (c_heights : (Nat → Int32)) (c_count : Int32) (p1 : Int32) : ctV l D tc yX9_finish (Cond.code yX9_finish cX9_finish 4 none :: jtb) ({ frames := 1, cells := 0, slots := 0, locals := 40 } : Room) [.ref h_, .int p1] [(h_, .inr (9, [g_symbols, .ref h_parents, .ref h_heights, .int c_count])), (h_parents, .inl (tc.1, 300, .inl c_parents)), (h_heights, .inl (tc.1, 300, .inl c_heights))] (fX9_finish N c_parents c_heights c_count p1) (fun (u : (Nat → Int32) × Int32) => [(h_, .inr (9, [g_symbols, .ref h_parents, .ref h_heights, .int u.2])), (h_parents, .inl (tc.1, 300, .inl c_parents)), (h_heights, .inl (tc.1, 300, .inl u.1))]) := by
  refine ctV_of (lv0 := [(0, .ref h_), (1, .int p1)]) (by decide +kernel) (Nat.le_of_ble_eq_true rfl) rfl (fun X C => ?_)
  unfold fX9_finish
  refine j_aload C d9_finish_0 0 rfl ?_
  refine j_iload C d9_finish_1 1 rfl ?_
  refine j_const C d9_finish_2 ?_
  refine j_mmin C d9_finish_5 kj9_25 rfl ⟨Nat.le_of_ble_eq_true rfl, Nat.le_of_ble_eq_true rfl⟩ (Nat.le_of_ble_eq_true rfl) ?_
  refine j_leti (fun x1 => ?_)
  refine j_putq C d9_finish_8 fq9_21 0 rfl rfl rfl (Nat.le_of_ble_eq_true rfl) (ws' := [(h_, .inr (9, [g_symbols, .ref h_parents, .ref h_heights, .int x1])), (h_parents, .inl (tc.1, 300, .inl c_parents)), (h_heights, .inl (tc.1, 300, .inl c_heights))]) rfl ?_
  refine j_aload C d9_finish_11 0 rfl ?_
  refine j_get C d9_finish_12 fl9_21 0 rfl rfl ?_
  refine j_const C d9_finish_15 ?_
  refine j_isub C d9_finish_16 ?_
  refine j_leti (fun x2 => ?_)
  refine j_istore C d9_finish_17 (by decide) (lv' := [(2, .int x2), (0, .ref h_), (1, .int p1)]) rfl ?_
  refine j_join 66 (fun v3 => [(h_, .inr (9, [g_symbols, .ref h_parents, .ref h_heights, .int x1])), (h_parents, .inl (tc.1, 300, .inl c_parents)), (h_heights, .inl (tc.1, 300, .inl v3))]) (fun v3 => []) (fun v3 => []) (fun v3 => ?_) (fun k4 hk4 => ?_)
  · exact j_vret C d9_finish_66 rfl
  · exact j_sub [1, 0] rfl (j_loop2 (fun v5 v6 => [(h_, .inr (9, [g_symbols, .ref h_parents, .ref h_heights, .int x1])), (h_parents, .inl (tc.1, 300, .inl c_parents)), (h_heights, .inl (tc.1, 300, .inl v6))]) (fun v5 v6 => [(0, .ref h_), (2, .int v5)]) (fun rc7 hrc7 v5 v6 => wX9_finish_18 C h_ h_parents h_heights g_symbols c_parents x1 k4 hk4 rc7 hrc7 v5 v6) N _ _)

theorem d4_top_0 : jda cX4_top 0 0 1 := Or.inl ⟨0, by decide +kernel⟩
theorem d4_top_1 : jd cX4_top 1 (.getfield 82) 3 4 := by decide +kernel
theorem d4_top_4 : jdb cX4_top 4 (.ifCond .le 17) 17 21 7 := by decide +kernel
theorem d4_top_7 : jda cX4_top 7 0 8 := Or.inl ⟨0, by decide +kernel⟩
theorem d4_top_8 : jd cX4_top 8 (.getfield 28) 3 11 := by decide +kernel
theorem d4_top_11 : jda cX4_top 11 0 12 := Or.inl ⟨0, by decide +kernel⟩
theorem d4_top_12 : jd cX4_top 12 (.getfield 82) 3 15 := by decide +kernel
theorem d4_top_15 : jdk cX4_top 15 1 16 := Or.inl ⟨1, by decide +kernel⟩
theorem d4_top_16 : jd cX4_top 16 (.isub) 1 17 := by decide +kernel
theorem d4_top_17 : jd cX4_top 17 (.iaload) 1 18 := by decide +kernel
theorem d4_top_18 : jdb cX4_top 18 (.goto 4) 4 22 21 := by decide +kernel
theorem d4_top_21 : jdk cX4_top 21 (-1) 22 := Or.inl ⟨(-1), by decide +kernel⟩
theorem d4_top_22 : decode cX4_top 22 = .ok (.ireturn, 1) := by decide +kernel
set_option maxHeartbeats 4000000 in
set_option maxRecDepth 100000 in
theorem kX4_top (l : Launch) (D : va_G) (tc : jTC) (h_ h_stack : Nat) (g_rules g_sets g_table g_input g_synchronizing g_trace g_traceLength g_tree g_errorParts g_errorCount g_bringers g_index g_steps : Value) (c_stack : (Nat → Int32)) (c_depth : Int32) : ctI0 l D tc yX4_top (Cond.code yX4_top cX4_top 1 (some .int) :: jtb) ({ frames := 0, cells := 0, slots := 0, locals := 0 } : Room) [.ref h_] [(h_, .inr (4, [g_rules, g_sets, g_table, g_input, g_synchronizing, g_trace, g_traceLength, g_tree, g_errorParts, g_errorCount, .ref h_stack, g_bringers, .int c_depth, g_index, g_steps])), (h_stack, .inl (tc.1, 65, .inl c_stack))] (fX4_top c_stack c_depth) := by
  refine ctI0_of (lv0 := [(0, .ref h_)]) (by decide +kernel) (Nat.le_of_ble_eq_true rfl) rfl (fun X C => ?_)
  unfold fX4_top
  refine j_aload C d4_top_0 0 rfl ?_
  refine j_get C d4_top_1 fl4_82 0 rfl rfl ?_
  refine j_join 22 (fun v1 => [(h_, .inr (4, [g_rules, g_sets, g_table, g_input, g_synchronizing, g_trace, g_traceLength, g_tree, g_errorParts, g_errorCount, .ref h_stack, g_bringers, .int c_depth, g_index, g_steps])), (h_stack, .inl (tc.1, 65, .inl c_stack))]) (fun v1 => []) (fun v1 => [.int v1]) (fun v1 => ?_) (fun k2 hk2 => ?_)
  · exact j_iret0 C d4_top_22
  · refine j_if_le C d4_top_4 ?_ ?_
    · refine j_const C d4_top_21 ?_
      exact j_sub [] rfl (hk2 _)
    · refine j_aload C d4_top_7 0 rfl ?_
      refine j_get C d4_top_8 fl4_28 0 rfl rfl ?_
      refine j_aload C d4_top_11 0 rfl ?_
      refine j_get C d4_top_12 fl4_82 0 rfl rfl ?_
      refine j_const C d4_top_15 ?_
      refine j_isub C d4_top_16 ?_
      refine j_iald C d4_top_17 1 rfl (fun x3 => ?_)
      refine j_goto C d4_top_18 ?_
      exact j_sub [] rfl (hk2 _)

theorem d8_entry_0 : jdi cX8_entry 0 1 1 := Or.inl ⟨1, by decide +kernel⟩
theorem d8_entry_1 : jdk cX8_entry 1 9 3 := Or.inr (Or.inl ⟨9, by decide +kernel⟩)
theorem d8_entry_3 : jd cX8_entry 3 (.imul) 1 4 := by decide +kernel
theorem d8_entry_4 : jdi cX8_entry 4 2 5 := Or.inl ⟨2, by decide +kernel⟩
theorem d8_entry_5 : jd cX8_entry 5 (.iadd) 1 6 := by decide +kernel
theorem d8_entry_6 : jds cX8_entry 6 3 7 := Or.inl ⟨3, by decide +kernel⟩
theorem d8_entry_7 : jda cX8_entry 7 0 8 := Or.inl ⟨0, by decide +kernel⟩
theorem d8_entry_8 : jd cX8_entry 8 (.getfield 15) 3 11 := by decide +kernel
theorem d8_entry_11 : jdi cX8_entry 11 3 12 := Or.inl ⟨3, by decide +kernel⟩
theorem d8_entry_12 : jd cX8_entry 12 (.iaload) 1 13 := by decide +kernel
theorem d8_entry_13 : jdb cX8_entry 13 (.ifCond .le 12) 12 25 16 := by decide +kernel
theorem d8_entry_16 : jda cX8_entry 16 0 17 := Or.inl ⟨0, by decide +kernel⟩
theorem d8_entry_17 : jd cX8_entry 17 (.getfield 18) 3 20 := by decide +kernel
theorem d8_entry_20 : jdi cX8_entry 20 3 21 := Or.inl ⟨3, by decide +kernel⟩
theorem d8_entry_21 : jd cX8_entry 21 (.iaload) 1 22 := by decide +kernel
theorem d8_entry_22 : jdb cX8_entry 22 (.goto 5) 5 27 25 := by decide +kernel
theorem d8_entry_25 : jdk cX8_entry 25 (-2) 27 := Or.inr (Or.inl ⟨(-2), by decide +kernel⟩)
theorem d8_entry_27 : decode cX8_entry 27 = .ok (.ireturn, 1) := by decide +kernel
set_option maxHeartbeats 4000000 in
set_option maxRecDepth 100000 in
theorem kX8_entry (l : Launch) (D : va_G) (tc : jTC) (h_ h_possible h_lowest : Nat) (g_rules g_sets g_select g_conflicts : Value) (c_possible : (Nat → Int32)) (c_lowest : (Nat → Int32)) (p1 : Int32) (p2 : Int32) : ctI0 l D tc yX8_entry (Cond.code yX8_entry cX8_entry 4 (some .int) :: jtb) ({ frames := 0, cells := 0, slots := 0, locals := 0 } : Room) [.ref h_, .int p1, .int p2] [(h_, .inr (8, [g_rules, g_sets, g_select, .ref h_possible, .ref h_lowest, g_conflicts])), (h_possible, .inl (tc.1, 72, .inl c_possible)), (h_lowest, .inl (tc.1, 72, .inl c_lowest))] (fX8_entry c_possible c_lowest p1 p2) := by
  refine ctI0_of (lv0 := [(0, .ref h_), (1, .int p1), (2, .int p2)]) (by decide +kernel) (Nat.le_of_ble_eq_true rfl) rfl (fun X C => ?_)
  unfold fX8_entry
  refine j_iload C d8_entry_0 1 rfl ?_
  refine j_const C d8_entry_1 ?_
  refine j_imul C d8_entry_3 ?_
  refine j_iload C d8_entry_4 2 rfl ?_
  refine j_iadd C d8_entry_5 ?_
  refine j_leti (fun x1 => ?_)
  refine j_istore C d8_entry_6 (by decide) (lv' := [(3, .int x1), (0, .ref h_), (1, .int p1), (2, .int p2)]) rfl ?_
  refine j_aload C d8_entry_7 1 rfl ?_
  refine j_get C d8_entry_8 fl8_15 0 rfl rfl ?_
  refine j_iload C d8_entry_11 0 rfl ?_
  refine j_iald C d8_entry_12 1 rfl (fun x2 => ?_)
  refine j_join 27 (fun v3 => [(h_, .inr (8, [g_rules, g_sets, g_select, .ref h_possible, .ref h_lowest, g_conflicts])), (h_possible, .inl (tc.1, 72, .inl c_possible)), (h_lowest, .inl (tc.1, 72, .inl c_lowest))]) (fun v3 => []) (fun v3 => [.int v3]) (fun v3 => ?_) (fun k4 hk4 => ?_)
  · exact j_iret0 C d8_entry_27
  · refine j_if_le C d8_entry_13 ?_ ?_
    · refine j_const C d8_entry_25 ?_
      exact j_sub [] rfl (hk4 _)
    · refine j_aload C d8_entry_16 1 rfl ?_
      refine j_get C d8_entry_17 fl8_18 0 rfl rfl ?_
      refine j_iload C d8_entry_20 0 rfl ?_
      refine j_iald C d8_entry_21 2 rfl (fun x5 => ?_)
      refine j_goto C d8_entry_22 ?_
      exact j_sub [] rfl (hk4 _)

theorem d4_canMove_0 : jda cX4_canMove 0 0 1 := Or.inl ⟨0, by decide +kernel⟩
theorem d4_canMove_1 : jd cX4_canMove 1 (.invokevirtual 68) 3 4 := by decide +kernel
theorem d4_canMove_4 : jds cX4_canMove 4 1 5 := Or.inl ⟨1, by decide +kernel⟩
theorem d4_canMove_5 : jdi cX4_canMove 5 1 6 := Or.inl ⟨1, by decide +kernel⟩
theorem d4_canMove_6 : jdk cX4_canMove 6 10 8 := Or.inr (Or.inl ⟨10, by decide +kernel⟩)
theorem d4_canMove_8 : jdb cX4_canMove 8 (.if_icmp .lt 27) 27 35 11 := by decide +kernel
theorem d4_canMove_11 : jda cX4_canMove 11 0 12 := Or.inl ⟨0, by decide +kernel⟩
theorem d4_canMove_12 : jd cX4_canMove 12 (.getfield 42) 3 15 := by decide +kernel
theorem d4_canMove_15 : jdi cX4_canMove 15 1 16 := Or.inl ⟨1, by decide +kernel⟩
theorem d4_canMove_16 : jdk cX4_canMove 16 10 18 := Or.inr (Or.inl ⟨10, by decide +kernel⟩)
theorem d4_canMove_18 : jd cX4_canMove 18 (.isub) 1 19 := by decide +kernel
theorem d4_canMove_19 : jda cX4_canMove 19 0 20 := Or.inl ⟨0, by decide +kernel⟩
theorem d4_canMove_20 : jd cX4_canMove 20 (.invokevirtual 134) 3 23 := by decide +kernel
theorem d4_canMove_23 : jd cX4_canMove 23 (.invokevirtual 137) 3 26 := by decide +kernel
theorem d4_canMove_26 : jdb cX4_canMove 26 (.ifCond .lt 7) 7 33 29 := by decide +kernel
theorem d4_canMove_29 : jdk cX4_canMove 29 1 30 := Or.inl ⟨1, by decide +kernel⟩
theorem d4_canMove_30 : jdb cX4_canMove 30 (.goto 4) 4 34 33 := by decide +kernel
theorem d4_canMove_33 : jdk cX4_canMove 33 0 34 := Or.inl ⟨0, by decide +kernel⟩
theorem d4_canMove_34 : decode cX4_canMove 34 = .ok (.ireturn, 1) := by decide +kernel
theorem d4_canMove_35 : jdi cX4_canMove 35 1 36 := Or.inl ⟨1, by decide +kernel⟩
theorem d4_canMove_36 : jdb cX4_canMove 36 (.ifCond .lt 15) 15 51 39 := by decide +kernel
theorem d4_canMove_39 : jdi cX4_canMove 39 1 40 := Or.inl ⟨1, by decide +kernel⟩
theorem d4_canMove_40 : jda cX4_canMove 40 0 41 := Or.inl ⟨0, by decide +kernel⟩
theorem d4_canMove_41 : jd cX4_canMove 41 (.invokevirtual 134) 3 44 := by decide +kernel
theorem d4_canMove_44 : jdb cX4_canMove 44 (.if_icmp .ne 7) 7 51 47 := by decide +kernel
theorem d4_canMove_47 : jdk cX4_canMove 47 1 48 := Or.inl ⟨1, by decide +kernel⟩
theorem d4_canMove_48 : jdb cX4_canMove 48 (.goto 4) 4 52 51 := by decide +kernel
theorem d4_canMove_51 : jdk cX4_canMove 51 0 52 := Or.inl ⟨0, by decide +kernel⟩
theorem d4_canMove_52 : decode cX4_canMove 52 = .ok (.ireturn, 1) := by decide +kernel
set_option maxHeartbeats 4000000 in
set_option maxRecDepth 100000 in
theorem kX4_canMove (l : Launch) (D : va_G) (tc : jTC) (h_ h_table h_table_possible h_table_lowest h_input h_input_terminals h_stack : Nat) (g_rules g_sets g_synchronizing g_trace g_traceLength g_tree g_errorParts g_errorCount g_bringers g_steps g_table_rules g_table_sets g_table_select g_table_conflicts : Value) (c_table_possible : (Nat → Int32)) (c_table_lowest : (Nat → Int32)) (c_input_terminals : (Nat → Int32)) (c_input_length : Int32) (c_stack : (Nat → Int32)) (c_depth : Int32) (c_index : Int32) : ctI0 l D tc yX4_canMove (Cond.code yX4_canMove cX4_canMove 2 (some .boolean) :: jtb) ({ frames := 2, cells := 0, slots := 0, locals := 41 } : Room) [.ref h_] [(h_, .inr (4, [g_rules, g_sets, .ref h_table, .ref h_input, g_synchronizing, g_trace, g_traceLength, g_tree, g_errorParts, g_errorCount, .ref h_stack, g_bringers, .int c_depth, .int c_index, g_steps])), (h_table, .inr (8, [g_table_rules, g_table_sets, g_table_select, .ref h_table_possible, .ref h_table_lowest, g_table_conflicts])), (h_table_possible, .inl (tc.1, 72, .inl c_table_possible)), (h_table_lowest, .inl (tc.1, 72, .inl c_table_lowest)), (h_input, .inr (3, [.ref h_input_terminals, .int c_input_length])), (h_input_terminals, .inl (tc.1, 40, .inl c_input_terminals)), (h_stack, .inl (tc.1, 65, .inl c_stack))] (fX4_canMove c_table_possible c_table_lowest c_input_terminals c_input_length c_stack c_depth c_index) := by
  refine ctI0_of (lv0 := [(0, .ref h_)]) (by decide +kernel) (Nat.le_of_ble_eq_true rfl) rfl (fun X C => ?_)
  unfold fX4_canMove
  refine j_aload C d4_canMove_0 0 rfl ?_
  refine j_callVI0 (As := []) C d4_canMove_1 mv4_68 (kX4_top _ _ tc h_ h_stack g_rules g_sets (.ref h_table) (.ref h_input) g_synchronizing g_trace g_traceLength g_tree g_errorParts g_errorCount g_bringers (.int c_index) g_steps c_stack c_depth) ⟨rfl, rfl, Nat.le_of_ble_eq_true rfl, Nat.le_of_ble_eq_true rfl⟩ rfl 0 rfl [0, 6] rfl rfl rfl (Nat.le_of_ble_eq_true rfl) (fun x1 => ?_)
  refine j_istore C d4_canMove_4 (by decide) (lv' := [(1, .int x1), (0, .ref h_)]) rfl ?_
  refine j_iload C d4_canMove_5 0 rfl ?_
  refine j_const C d4_canMove_6 ?_
  refine j_icmp_lt C d4_canMove_8 ?_ ?_
  · refine j_iload C d4_canMove_35 0 rfl ?_
    refine j_join 52 (fun v2 => [(h_, .inr (4, [g_rules, g_sets, .ref h_table, .ref h_input, g_synchronizing, g_trace, g_traceLength, g_tree, g_errorParts, g_errorCount, .ref h_stack, g_bringers, .int c_depth, .int c_index, g_steps])), (h_table, .inr (8, [g_table_rules, g_table_sets, g_table_select, .ref h_table_possible, .ref h_table_lowest, g_table_conflicts])), (h_table_possible, .inl (tc.1, 72, .inl c_table_possible)), (h_table_lowest, .inl (tc.1, 72, .inl c_table_lowest)), (h_input, .inr (3, [.ref h_input_terminals, .int c_input_length])), (h_input_terminals, .inl (tc.1, 40, .inl c_input_terminals)), (h_stack, .inl (tc.1, 65, .inl c_stack))]) (fun v2 => []) (fun v2 => [.int v2]) (fun v2 => ?_) (fun k3 hk3 => ?_)
    · refine j_gz (fun hz => ?_)
      exact j_zret0 C hz d4_canMove_52
    · refine j_join 51 (fun v4 => [(h_, .inr (4, [g_rules, g_sets, .ref h_table, .ref h_input, g_synchronizing, g_trace, g_traceLength, g_tree, g_errorParts, g_errorCount, .ref h_stack, g_bringers, .int c_depth, .int c_index, g_steps])), (h_table, .inr (8, [g_table_rules, g_table_sets, g_table_select, .ref h_table_possible, .ref h_table_lowest, g_table_conflicts])), (h_table_possible, .inl (tc.1, 72, .inl c_table_possible)), (h_table_lowest, .inl (tc.1, 72, .inl c_table_lowest)), (h_input, .inr (3, [.ref h_input_terminals, .int c_input_length])), (h_input_terminals, .inl (tc.1, 40, .inl c_input_terminals)), (h_stack, .inl (tc.1, 65, .inl c_stack))]) (fun v4 => []) (fun v4 => []) (fun v4 => ?_) (fun k5 hk5 => ?_)
      · refine j_const C d4_canMove_51 ?_
        exact hk3 _
      · refine j_if_lt C d4_canMove_36 ?_ ?_
        · exact j_sub [] rfl (hk5 _)
        · refine j_iload C d4_canMove_39 0 rfl ?_
          refine j_aload C d4_canMove_40 1 rfl ?_
          refine j_callVI0 (As := []) C d4_canMove_41 mv4_134 (kX4_token _ _ tc h_ h_input h_input_terminals g_rules g_sets (.ref h_table) g_synchronizing g_trace g_traceLength g_tree g_errorParts g_errorCount (.ref h_stack) g_bringers (.int c_depth) g_steps c_input_terminals c_input_length c_index) ⟨rfl, rfl, Nat.le_of_ble_eq_true rfl, Nat.le_of_ble_eq_true rfl⟩ rfl 0 rfl [0, 4, 5] rfl rfl rfl (Nat.le_of_ble_eq_true rfl) (fun x6 => ?_)
          refine j_icmp_ne C d4_canMove_44 ?_ ?_
          · exact j_sub [] rfl (hk5 _)
          · refine j_const C d4_canMove_47 ?_
            refine j_goto C d4_canMove_48 ?_
            exact j_sub [] rfl (hk3 _)
  · refine j_aload C d4_canMove_11 1 rfl ?_
    refine j_get C d4_canMove_12 fl4_42 0 rfl rfl ?_
    refine j_iload C d4_canMove_15 0 rfl ?_
    refine j_const C d4_canMove_16 ?_
    refine j_isub C d4_canMove_18 ?_
    refine j_aload C d4_canMove_19 1 rfl ?_
    refine j_callVI0 (As := []) C d4_canMove_20 mv4_134 (kX4_token _ _ tc h_ h_input h_input_terminals g_rules g_sets (.ref h_table) g_synchronizing g_trace g_traceLength g_tree g_errorParts g_errorCount (.ref h_stack) g_bringers (.int c_depth) g_steps c_input_terminals c_input_length c_index) ⟨rfl, rfl, Nat.le_of_ble_eq_true rfl, Nat.le_of_ble_eq_true rfl⟩ rfl 0 rfl [0, 4, 5] rfl rfl rfl (Nat.le_of_ble_eq_true rfl) (fun x7 => ?_)
    refine j_callVI0 (As := [.int (x1 - (10 : Int32)), .int x7]) C d4_canMove_23 mv4_137 (kX8_entry _ _ tc h_table h_table_possible h_table_lowest g_table_rules g_table_sets g_table_select g_table_conflicts c_table_possible c_table_lowest (x1 - (10 : Int32)) x7) ⟨rfl, rfl, Nat.le_of_ble_eq_true rfl, Nat.le_of_ble_eq_true rfl⟩ rfl 1 rfl [1, 2, 3] rfl rfl rfl (Nat.le_of_ble_eq_true rfl) (fun x8 => ?_)
    refine j_join 34 (fun v9 => [(h_, .inr (4, [g_rules, g_sets, .ref h_table, .ref h_input, g_synchronizing, g_trace, g_traceLength, g_tree, g_errorParts, g_errorCount, .ref h_stack, g_bringers, .int c_depth, .int c_index, g_steps])), (h_table, .inr (8, [g_table_rules, g_table_sets, g_table_select, .ref h_table_possible, .ref h_table_lowest, g_table_conflicts])), (h_table_possible, .inl (tc.1, 72, .inl c_table_possible)), (h_table_lowest, .inl (tc.1, 72, .inl c_table_lowest)), (h_input, .inr (3, [.ref h_input_terminals, .int c_input_length])), (h_input_terminals, .inl (tc.1, 40, .inl c_input_terminals)), (h_stack, .inl (tc.1, 65, .inl c_stack))]) (fun v9 => []) (fun v9 => [.int v9]) (fun v9 => ?_) (fun k10 hk10 => ?_)
    · refine j_gz (fun hz => ?_)
      exact j_zret0 C hz d4_canMove_34
    · refine j_if_lt C d4_canMove_26 ?_ ?_
      · refine j_const C d4_canMove_33 ?_
        exact j_sub [] rfl (hk10 _)
      · refine j_const C d4_canMove_29 ?_
        refine j_goto C d4_canMove_30 ?_
        exact j_sub [] rfl (hk10 _)

theorem d4_bringer_0 : jda cX4_bringer 0 0 1 := Or.inl ⟨0, by decide +kernel⟩
theorem d4_bringer_1 : jd cX4_bringer 1 (.getfield 82) 3 4 := by decide +kernel
theorem d4_bringer_4 : jdb cX4_bringer 4 (.ifCond .le 17) 17 21 7 := by decide +kernel
theorem d4_bringer_7 : jda cX4_bringer 7 0 8 := Or.inl ⟨0, by decide +kernel⟩
theorem d4_bringer_8 : jd cX4_bringer 8 (.getfield 31) 3 11 := by decide +kernel
theorem d4_bringer_11 : jda cX4_bringer 11 0 12 := Or.inl ⟨0, by decide +kernel⟩
theorem d4_bringer_12 : jd cX4_bringer 12 (.getfield 82) 3 15 := by decide +kernel
theorem d4_bringer_15 : jdk cX4_bringer 15 1 16 := Or.inl ⟨1, by decide +kernel⟩
theorem d4_bringer_16 : jd cX4_bringer 16 (.isub) 1 17 := by decide +kernel
theorem d4_bringer_17 : jd cX4_bringer 17 (.iaload) 1 18 := by decide +kernel
theorem d4_bringer_18 : jdb cX4_bringer 18 (.goto 4) 4 22 21 := by decide +kernel
theorem d4_bringer_21 : jdk cX4_bringer 21 (-1) 22 := Or.inl ⟨(-1), by decide +kernel⟩
theorem d4_bringer_22 : decode cX4_bringer 22 = .ok (.ireturn, 1) := by decide +kernel
set_option maxHeartbeats 4000000 in
set_option maxRecDepth 100000 in
theorem kX4_bringer (l : Launch) (D : va_G) (tc : jTC) (h_ h_bringers : Nat) (g_rules g_sets g_table g_input g_synchronizing g_trace g_traceLength g_tree g_errorParts g_errorCount g_stack g_index g_steps : Value) (c_bringers : (Nat → Int32)) (c_depth : Int32) : ctI0 l D tc yX4_bringer (Cond.code yX4_bringer cX4_bringer 1 (some .int) :: jtb) ({ frames := 0, cells := 0, slots := 0, locals := 0 } : Room) [.ref h_] [(h_, .inr (4, [g_rules, g_sets, g_table, g_input, g_synchronizing, g_trace, g_traceLength, g_tree, g_errorParts, g_errorCount, g_stack, .ref h_bringers, .int c_depth, g_index, g_steps])), (h_bringers, .inl (tc.1, 65, .inl c_bringers))] (fX4_bringer c_bringers c_depth) := by
  refine ctI0_of (lv0 := [(0, .ref h_)]) (by decide +kernel) (Nat.le_of_ble_eq_true rfl) rfl (fun X C => ?_)
  unfold fX4_bringer
  refine j_aload C d4_bringer_0 0 rfl ?_
  refine j_get C d4_bringer_1 fl4_82 0 rfl rfl ?_
  refine j_join 22 (fun v1 => [(h_, .inr (4, [g_rules, g_sets, g_table, g_input, g_synchronizing, g_trace, g_traceLength, g_tree, g_errorParts, g_errorCount, g_stack, .ref h_bringers, .int c_depth, g_index, g_steps])), (h_bringers, .inl (tc.1, 65, .inl c_bringers))]) (fun v1 => []) (fun v1 => [.int v1]) (fun v1 => ?_) (fun k2 hk2 => ?_)
  · exact j_iret0 C d4_bringer_22
  · refine j_if_le C d4_bringer_4 ?_ ?_
    · refine j_const C d4_bringer_21 ?_
      exact j_sub [] rfl (hk2 _)
    · refine j_aload C d4_bringer_7 0 rfl ?_
      refine j_get C d4_bringer_8 fl4_31 0 rfl rfl ?_
      refine j_aload C d4_bringer_11 0 rfl ?_
      refine j_get C d4_bringer_12 fl4_82 0 rfl rfl ?_
      refine j_const C d4_bringer_15 ?_
      refine j_isub C d4_bringer_16 ?_
      refine j_iald C d4_bringer_17 1 rfl (fun x3 => ?_)
      refine j_goto C d4_bringer_18 ?_
      exact j_sub [] rfl (hk2 _)

theorem d9_note_0 : jdi cX9_note 0 1 1 := Or.inl ⟨1, by decide +kernel⟩
theorem d9_note_1 : jdb cX9_note 1 (.ifCond .lt 31) 31 32 4 := by decide +kernel
theorem d9_note_4 : jdi cX9_note 4 1 5 := Or.inl ⟨1, by decide +kernel⟩
theorem d9_note_5 : jdk cX9_note 5 300 8 := Or.inr (Or.inr ⟨300, by decide +kernel⟩)
theorem d9_note_8 : jdb cX9_note 8 (.if_icmp .ge 24) 24 32 11 := by decide +kernel
theorem d9_note_11 : jda cX9_note 11 0 12 := Or.inl ⟨0, by decide +kernel⟩
theorem d9_note_12 : jd cX9_note 12 (.getfield 9) 3 15 := by decide +kernel
theorem d9_note_15 : jdi cX9_note 15 1 16 := Or.inl ⟨1, by decide +kernel⟩
theorem d9_note_16 : jdi cX9_note 16 2 17 := Or.inl ⟨2, by decide +kernel⟩
theorem d9_note_17 : jd cX9_note 17 (.iastore) 1 18 := by decide +kernel
theorem d9_note_18 : jda cX9_note 18 0 19 := Or.inl ⟨0, by decide +kernel⟩
theorem d9_note_19 : jd cX9_note 19 (.getfield 15) 3 22 := by decide +kernel
theorem d9_note_22 : jdi cX9_note 22 1 23 := Or.inl ⟨1, by decide +kernel⟩
theorem d9_note_23 : jdi cX9_note 23 3 24 := Or.inl ⟨3, by decide +kernel⟩
theorem d9_note_24 : jd cX9_note 24 (.iastore) 1 25 := by decide +kernel
theorem d9_note_25 : jda cX9_note 25 0 26 := Or.inl ⟨0, by decide +kernel⟩
theorem d9_note_26 : jd cX9_note 26 (.getfield 18) 3 29 := by decide +kernel
theorem d9_note_29 : jdi cX9_note 29 1 30 := Or.inl ⟨1, by decide +kernel⟩
theorem d9_note_30 : jdk cX9_note 30 0 31 := Or.inl ⟨0, by decide +kernel⟩
theorem d9_note_31 : jd cX9_note 31 (.iastore) 1 32 := by decide +kernel
theorem d9_note_32 : decode cX9_note 32 = .ok (.return_, 1) := by decide +kernel
set_option maxHeartbeats 4000000 in
set_option maxRecDepth 100000 in
theorem kX9_note (l : Launch) (D : va_G) (tc : jTC) (h_ h_symbols h_parents h_heights : Nat) (g_count : Value) (c_symbols : (Nat → Int32)) (c_parents : (Nat → Int32)) (c_heights : (Nat → Int32)) (p1 : Int32) (p2 : Int32) (p3 : Int32) : ctV l D tc yX9_note (Cond.code yX9_note cX9_note 4 none :: jtb) ({ frames := 0, cells := 0, slots := 0, locals := 0 } : Room) [.ref h_, .int p1, .int p2, .int p3] [(h_, .inr (9, [.ref h_symbols, .ref h_parents, .ref h_heights, g_count])), (h_symbols, .inl (tc.1, 300, .inl c_symbols)), (h_parents, .inl (tc.1, 300, .inl c_parents)), (h_heights, .inl (tc.1, 300, .inl c_heights))] (fX9_note c_symbols c_parents c_heights p1 p2 p3) (fun (u : (Nat → Int32) × (Nat → Int32) × (Nat → Int32)) => [(h_, .inr (9, [.ref h_symbols, .ref h_parents, .ref h_heights, g_count])), (h_symbols, .inl (tc.1, 300, .inl u.1)), (h_parents, .inl (tc.1, 300, .inl u.2.1)), (h_heights, .inl (tc.1, 300, .inl u.2.2))]) := by
  refine ctV_of (lv0 := [(0, .ref h_), (1, .int p1), (2, .int p2), (3, .int p3)]) (by decide +kernel) (Nat.le_of_ble_eq_true rfl) rfl (fun X C => ?_)
  unfold fX9_note
  refine j_iload C d9_note_0 1 rfl ?_
  refine j_join3 32 (fun v1 v2 v3 => [(h_, .inr (9, [.ref h_symbols, .ref h_parents, .ref h_heights, g_count])), (h_symbols, .inl (tc.1, 300, .inl v1)), (h_parents, .inl (tc.1, 300, .inl v2)), (h_heights, .inl (tc.1, 300, .inl v3))]) (fun v1 v2 v3 => []) (fun v1 v2 v3 => []) (fun v1 v2 v3 => ?_) (fun k4 hk4 => ?_)
  · exact j_vret C d9_note_32 rfl
  · refine j_if_lt C d9_note_1 ?_ ?_
    · exact j_sub [] rfl (hk4 _ _ _)
    · refine j_iload C d9_note_4 1 rfl ?_
      refine j_const C d9_note_5 ?_
      refine j_icmp_ge C d9_note_8 ?_ ?_
      · exact j_sub [] rfl (hk4 _ _ _)
      · refine j_aload C d9_note_11 0 rfl ?_
        refine j_get C d9_note_12 fl9_9 0 rfl rfl ?_
        refine j_iload C d9_note_15 1 rfl ?_
        refine j_iload C d9_note_16 2 rfl ?_
        refine j_iast C (fun f5 => [(h_, .inr (9, [.ref h_symbols, .ref h_parents, .ref h_heights, g_count])), (h_symbols, .inl (tc.1, 300, .inl f5)), (h_parents, .inl (tc.1, 300, .inl c_parents)), (h_heights, .inl (tc.1, 300, .inl c_heights))]) d9_note_17 1 rfl (fun _ => rfl) (fun f5 => ?_)
        refine j_aload C d9_note_18 0 rfl ?_
        refine j_get C d9_note_19 fl9_15 0 rfl rfl ?_
        refine j_iload C d9_note_22 1 rfl ?_
        refine j_iload C d9_note_23 3 rfl ?_
        refine j_iast C (fun f6 => [(h_, .inr (9, [.ref h_symbols, .ref h_parents, .ref h_heights, g_count])), (h_symbols, .inl (tc.1, 300, .inl f5)), (h_parents, .inl (tc.1, 300, .inl f6)), (h_heights, .inl (tc.1, 300, .inl c_heights))]) d9_note_24 2 rfl (fun _ => rfl) (fun f6 => ?_)
        refine j_aload C d9_note_25 0 rfl ?_
        refine j_get C d9_note_26 fl9_18 0 rfl rfl ?_
        refine j_iload C d9_note_29 1 rfl ?_
        refine j_const C d9_note_30 ?_
        refine j_iast C (fun f7 => [(h_, .inr (9, [.ref h_symbols, .ref h_parents, .ref h_heights, g_count])), (h_symbols, .inl (tc.1, 300, .inl f5)), (h_parents, .inl (tc.1, 300, .inl f6)), (h_heights, .inl (tc.1, 300, .inl f7))]) d9_note_31 3 rfl (fun _ => rfl) (fun f7 => ?_)
        exact j_sub [] rfl (hk4 _ _ _)

theorem d4_expand_0 : jda cX4_expand 0 0 1 := Or.inl ⟨0, by decide +kernel⟩
theorem d4_expand_1 : jd cX4_expand 1 (.getfield 34) 3 4 := by decide +kernel
theorem d4_expand_4 : jdi cX4_expand 4 1 5 := Or.inl ⟨1, by decide +kernel⟩
theorem d4_expand_5 : jd cX4_expand 5 (.invokevirtual 144) 3 8 := by decide +kernel
theorem d4_expand_8 : jdb cX4_expand 8 (.ifCond .eq 13) 13 21 11 := by decide +kernel
theorem d4_expand_11 : jda cX4_expand 11 0 12 := Or.inl ⟨0, by decide +kernel⟩
theorem d4_expand_12 : jd cX4_expand 12 (.getfield 122) 3 15 := by decide +kernel
theorem d4_expand_15 : jdk cX4_expand 15 300 18 := Or.inr (Or.inr ⟨300, by decide +kernel⟩)
theorem d4_expand_18 : jdb cX4_expand 18 (.if_icmp .lt 4) 4 22 21 := by decide +kernel
theorem d4_expand_21 : decode cX4_expand 21 = .ok (.return_, 1) := by decide +kernel
theorem d4_expand_22 : jda cX4_expand 22 0 23 := Or.inl ⟨0, by decide +kernel⟩
theorem d4_expand_23 : jd cX4_expand 23 (.getfield 15) 3 26 := by decide +kernel
theorem d4_expand_26 : jda cX4_expand 26 0 27 := Or.inl ⟨0, by decide +kernel⟩
theorem d4_expand_27 : jd cX4_expand 27 (.getfield 122) 3 30 := by decide +kernel
theorem d4_expand_30 : jdi cX4_expand 30 1 31 := Or.inl ⟨1, by decide +kernel⟩
theorem d4_expand_31 : jd cX4_expand 31 (.iastore) 1 32 := by decide +kernel
theorem d4_expand_32 : jda cX4_expand 32 0 33 := Or.inl ⟨0, by decide +kernel⟩
theorem d4_expand_33 : jd cX4_expand 33 (.dup) 1 34 := by decide +kernel
theorem d4_expand_34 : jd cX4_expand 34 (.getfield 122) 3 37 := by decide +kernel
theorem d4_expand_37 : jdk cX4_expand 37 1 38 := Or.inl ⟨1, by decide +kernel⟩
theorem d4_expand_38 : jd cX4_expand 38 (.iadd) 1 39 := by decide +kernel
theorem d4_expand_39 : jd cX4_expand 39 (.putfield 122) 3 42 := by decide +kernel
theorem d4_expand_42 : jda cX4_expand 42 0 43 := Or.inl ⟨0, by decide +kernel⟩
theorem d4_expand_43 : jd cX4_expand 43 (.dup) 1 44 := by decide +kernel
theorem d4_expand_44 : jd cX4_expand 44 (.getfield 82) 3 47 := by decide +kernel
theorem d4_expand_47 : jdk cX4_expand 47 1 48 := Or.inl ⟨1, by decide +kernel⟩
theorem d4_expand_48 : jd cX4_expand 48 (.isub) 1 49 := by decide +kernel
theorem d4_expand_49 : jd cX4_expand 49 (.putfield 82) 3 52 := by decide +kernel
theorem d4_expand_52 : jda cX4_expand 52 0 53 := Or.inl ⟨0, by decide +kernel⟩
theorem d4_expand_53 : jd cX4_expand 53 (.getfield 34) 3 56 := by decide +kernel
theorem d4_expand_56 : jd cX4_expand 56 (.getfield 148) 3 59 := by decide +kernel
theorem d4_expand_59 : jdi cX4_expand 59 1 60 := Or.inl ⟨1, by decide +kernel⟩
theorem d4_expand_60 : jd cX4_expand 60 (.iaload) 1 61 := by decide +kernel
theorem d4_expand_61 : jds cX4_expand 61 2 62 := Or.inl ⟨2, by decide +kernel⟩
theorem d4_expand_62 : jdi cX4_expand 62 2 63 := Or.inl ⟨2, by decide +kernel⟩
theorem d4_expand_63 : jd cX4_expand 63 (.invokestatic 151) 3 66 := by decide +kernel
theorem d4_expand_66 : jdk cX4_expand 66 1 67 := Or.inl ⟨1, by decide +kernel⟩
theorem d4_expand_67 : jd cX4_expand 67 (.isub) 1 68 := by decide +kernel
theorem d4_expand_68 : jds cX4_expand 68 3 69 := Or.inl ⟨3, by decide +kernel⟩
theorem d4_expand_69 : jdi cX4_expand 69 3 70 := Or.inl ⟨3, by decide +kernel⟩
theorem d4_expand_70 : jdb cX4_expand 70 (.ifCond .lt 22) 22 92 73 := by decide +kernel
theorem d4_expand_73 : jda cX4_expand 73 0 74 := Or.inl ⟨0, by decide +kernel⟩
theorem d4_expand_74 : jdi cX4_expand 74 2 75 := Or.inl ⟨2, by decide +kernel⟩
theorem d4_expand_75 : jdi cX4_expand 75 3 76 := Or.inl ⟨3, by decide +kernel⟩
theorem d4_expand_76 : jd cX4_expand 76 (.invokestatic 154) 3 79 := by decide +kernel
theorem d4_expand_79 : jda cX4_expand 79 0 80 := Or.inl ⟨0, by decide +kernel⟩
theorem d4_expand_80 : jd cX4_expand 80 (.getfield 57) 3 83 := by decide +kernel
theorem d4_expand_83 : jd cX4_expand 83 (.invokevirtual 128) 3 86 := by decide +kernel
theorem d4_expand_86 : jd cX4_expand 86 (.iinc 3 (-1)) 3 89 := by decide +kernel
theorem d4_expand_89 : jdb cX4_expand 89 (.goto (-20)) (-20) 69 92 := by decide +kernel
theorem d4_expand_92 : decode cX4_expand 92 = .ok (.return_, 1) := by decide +kernel
set_option maxHeartbeats 4000000 in
set_option maxRecDepth 100000 in
theorem wX4_expand_69 {X : jC} {tc : jTC} (C : jx X cX4_expand 4 RX4 none tc ({ frames := 1, cells := 0, slots := 0, locals := 22 } : Room)) (h_ h_rules h_rules_codes h_trace h_stack h_bringers : Nat) (g_sets g_table g_input g_synchronizing g_tree g_errorParts g_errorCount g_index : Value) (c_rules_codes : (Nat → Int32)) (c_rules_count : Int32) (c_steps : Int32) (f4 : (Nat → Int32)) (x5 : Int32) (x7 : Int32) (k13 : ((Nat → Int32) → (Nat → Int32) → Int32 → Option ((Nat → Int32) × Int32 × (Nat → Int32) × (Nat → Int32) × Int32))) (hk13 : ∀ (v24 : (Nat → Int32)) (v25 : (Nat → Int32)) (v26 : Int32), jo X 4 (0, 0) (jQV X (fun (u : (Nat → Int32) × Int32 × (Nat → Int32) × (Nat → Int32) × Int32) => [(h_, .inr (4, [.ref h_rules, g_sets, g_table, g_input, g_synchronizing, .ref h_trace, .int u.2.1, g_tree, g_errorParts, g_errorCount, .ref h_stack, .ref h_bringers, .int u.2.2.2.2, g_index, .int c_steps])), (h_rules, .inr (6, [.ref h_rules_codes, .int c_rules_count])), (h_rules_codes, .inl (tc.1, 24, .inl c_rules_codes)), (h_trace, .inl (tc.1, 300, .inl u.1)), (h_stack, .inl (tc.1, 65, .inl u.2.2.1)), (h_bringers, .inl (tc.1, 65, .inl u.2.2.2.1))])) (k13 v24 v25 v26) [(h_, .inr (4, [.ref h_rules, g_sets, g_table, g_input, g_synchronizing, .ref h_trace, .int x5, g_tree, g_errorParts, g_errorCount, .ref h_stack, .ref h_bringers, .int v26, g_index, .int c_steps])), (h_rules, .inr (6, [.ref h_rules_codes, .int c_rules_count])), (h_rules_codes, .inl (tc.1, 24, .inl c_rules_codes)), (h_trace, .inl (tc.1, 300, .inl f4)), (h_stack, .inl (tc.1, 65, .inl v24)), (h_bringers, .inl (tc.1, 65, .inl v25))] 92 [] []) (rc18 : Int32 → (Nat → Int32) → (Nat → Int32) → Int32 → Option ((Nat → Int32) × Int32 × (Nat → Int32) × (Nat → Int32) × Int32)) (hrc18 : ∀ (v14 : Int32) (v15 : (Nat → Int32)) (v16 : (Nat → Int32)) (v17 : Int32), jo X 4 (0, 0) (jQV X (fun (u : (Nat → Int32) × Int32 × (Nat → Int32) × (Nat → Int32) × Int32) => [(h_, .inr (4, [.ref h_rules, g_sets, g_table, g_input, g_synchronizing, .ref h_trace, .int u.2.1, g_tree, g_errorParts, g_errorCount, .ref h_stack, .ref h_bringers, .int u.2.2.2.2, g_index, .int c_steps])), (h_rules, .inr (6, [.ref h_rules_codes, .int c_rules_count])), (h_rules_codes, .inl (tc.1, 24, .inl c_rules_codes)), (h_trace, .inl (tc.1, 300, .inl u.1)), (h_stack, .inl (tc.1, 65, .inl u.2.2.1)), (h_bringers, .inl (tc.1, 65, .inl u.2.2.2.1))])) (rc18 v14 v15 v16 v17) [(h_, .inr (4, [.ref h_rules, g_sets, g_table, g_input, g_synchronizing, .ref h_trace, .int x5, g_tree, g_errorParts, g_errorCount, .ref h_stack, .ref h_bringers, .int v17, g_index, .int c_steps])), (h_rules, .inr (6, [.ref h_rules_codes, .int c_rules_count])), (h_rules_codes, .inl (tc.1, 24, .inl c_rules_codes)), (h_trace, .inl (tc.1, 300, .inl f4)), (h_stack, .inl (tc.1, 65, .inl v15)), (h_bringers, .inl (tc.1, 65, .inl v16))] 69 [(0, .ref h_), (2, .int x7), (3, .int v14)] []) (v14 : Int32) (v15 : (Nat → Int32)) (v16 : (Nat → Int32)) (v17 : Int32) : jo X 4 (0, 0) (jQV X (fun (u : (Nat → Int32) × Int32 × (Nat → Int32) × (Nat → Int32) × Int32) => [(h_, .inr (4, [.ref h_rules, g_sets, g_table, g_input, g_synchronizing, .ref h_trace, .int u.2.1, g_tree, g_errorParts, g_errorCount, .ref h_stack, .ref h_bringers, .int u.2.2.2.2, g_index, .int c_steps])), (h_rules, .inr (6, [.ref h_rules_codes, .int c_rules_count])), (h_rules_codes, .inl (tc.1, 24, .inl c_rules_codes)), (h_trace, .inl (tc.1, 300, .inl u.1)), (h_stack, .inl (tc.1, 65, .inl u.2.2.1)), (h_bringers, .inl (tc.1, 65, .inl u.2.2.2.1))])) (bX4_expand_69 c_steps x7 k13 rc18 v14 v15 v16 v17) [(h_, .inr (4, [.ref h_rules, g_sets, g_table, g_input, g_synchronizing, .ref h_trace, .int x5, g_tree, g_errorParts, g_errorCount, .ref h_stack, .ref h_bringers, .int v17, g_index, .int c_steps])), (h_rules, .inr (6, [.ref h_rules_codes, .int c_rules_count])), (h_rules_codes, .inl (tc.1, 24, .inl c_rules_codes)), (h_trace, .inl (tc.1, 300, .inl f4)), (h_stack, .inl (tc.1, 65, .inl v15)), (h_bringers, .inl (tc.1, 65, .inl v16))] 69 [(0, .ref h_), (2, .int x7), (3, .int v14)] [] := by
  unfold bX4_expand_69
  refine j_iload C d4_expand_69 2 rfl ?_
  refine j_if_lt C d4_expand_70 ?_ ?_
  · exact j_sub [] rfl (hk13 _ _ _)
  · refine j_aload C d4_expand_73 0 rfl ?_
    refine j_iload C d4_expand_74 1 rfl ?_
    refine j_iload C d4_expand_75 2 rfl ?_
    refine j_callSI0 (As := [.int x7, .int v14]) C d4_expand_76 ms4_154 (kX6_symbolOf _ _ tc x7 v14) ⟨rfl, rfl, Nat.le_of_ble_eq_true rfl, Nat.le_of_ble_eq_true rfl⟩ rfl [] rfl rfl rfl (Nat.le_of_ble_eq_true rfl) (fun x19 => ?_)
    refine j_aload C d4_expand_79 0 rfl ?_
    refine j_get C d4_expand_80 fl4_57 0 rfl rfl ?_
    refine j_callVV3 (As := [.int x19, .int c_steps]) C d4_expand_83 mv4_128 (kX4_push _ _ tc h_ h_stack h_bringers (.ref h_rules) g_sets g_table g_input g_synchronizing (.ref h_trace) (.int x5) g_tree g_errorParts g_errorCount g_index (.int c_steps) v15 v16 v17 x19 c_steps) ⟨rfl, rfl, Nat.le_of_ble_eq_true rfl, Nat.le_of_ble_eq_true rfl⟩ rfl 0 rfl [0, 4, 5] rfl rfl rfl (Nat.le_of_ble_eq_true rfl) (fun o20 o21 o22 => [(h_, .inr (4, [.ref h_rules, g_sets, g_table, g_input, g_synchronizing, .ref h_trace, .int x5, g_tree, g_errorParts, g_errorCount, .ref h_stack, .ref h_bringers, .int o22, g_index, .int c_steps])), (h_rules, .inr (6, [.ref h_rules_codes, .int c_rules_count])), (h_rules_codes, .inl (tc.1, 24, .inl c_rules_codes)), (h_trace, .inl (tc.1, 300, .inl f4)), (h_stack, .inl (tc.1, 65, .inl o20)), (h_bringers, .inl (tc.1, 65, .inl o21))]) [(true, 0), (false, 1), (false, 2), (false, 3), (true, 1), (true, 2)] (fun _ => rfl) (by decide +kernel) (fun o20 o21 o22 => ?_)
    refine j_iincN C (fun x23 => [(3, .int x23), (0, .ref h_), (2, .int x7)]) d4_expand_86 2 rfl (by decide +kernel) (by decide) (fun _ => rfl) (fun x23 => ?_)
    refine j_goto C d4_expand_89 ?_
    exact j_sub [1, 2, 0] rfl (hrc18 _ _ _ _)

set_option maxHeartbeats 4000000 in
set_option maxRecDepth 100000 in
theorem kX4_expand (l : Launch) (D : va_G) (tc : jTC) (N : Nat) (h_ h_rules h_rules_codes h_trace h_stack h_bringers : Nat) (g_sets g_table g_input g_synchronizing g_tree g_errorParts g_errorCount g_index : Value) (c_rules_codes : (Nat → Int32)) (c_rules_count : Int32) (c_trace : (Nat → Int32)) (c_traceLength : Int32) (c_stack : (Nat → Int32)) (c_bringers : (Nat → Int32)) (c_depth : Int32) (c_steps : Int32) (p1 : Int32) : ctV l D tc yX4_expand (Cond.code yX4_expand cX4_expand 4 none :: jtb) ({ frames := 1, cells := 0, slots := 0, locals := 22 } : Room) [.ref h_, .int p1] [(h_, .inr (4, [.ref h_rules, g_sets, g_table, g_input, g_synchronizing, .ref h_trace, .int c_traceLength, g_tree, g_errorParts, g_errorCount, .ref h_stack, .ref h_bringers, .int c_depth, g_index, .int c_steps])), (h_rules, .inr (6, [.ref h_rules_codes, .int c_rules_count])), (h_rules_codes, .inl (tc.1, 24, .inl c_rules_codes)), (h_trace, .inl (tc.1, 300, .inl c_trace)), (h_stack, .inl (tc.1, 65, .inl c_stack)), (h_bringers, .inl (tc.1, 65, .inl c_bringers))] (fX4_expand N c_rules_codes c_rules_count c_trace c_traceLength c_stack c_bringers c_depth c_steps p1) (fun (u : (Nat → Int32) × Int32 × (Nat → Int32) × (Nat → Int32) × Int32) => [(h_, .inr (4, [.ref h_rules, g_sets, g_table, g_input, g_synchronizing, .ref h_trace, .int u.2.1, g_tree, g_errorParts, g_errorCount, .ref h_stack, .ref h_bringers, .int u.2.2.2.2, g_index, .int c_steps])), (h_rules, .inr (6, [.ref h_rules_codes, .int c_rules_count])), (h_rules_codes, .inl (tc.1, 24, .inl c_rules_codes)), (h_trace, .inl (tc.1, 300, .inl u.1)), (h_stack, .inl (tc.1, 65, .inl u.2.2.1)), (h_bringers, .inl (tc.1, 65, .inl u.2.2.2.1))]) := by
  refine ctV_of (lv0 := [(0, .ref h_), (1, .int p1)]) (by decide +kernel) (Nat.le_of_ble_eq_true rfl) rfl (fun X C => ?_)
  unfold fX4_expand
  refine j_aload C d4_expand_0 0 rfl ?_
  refine j_get C d4_expand_1 fl4_34 0 rfl rfl ?_
  refine j_iload C d4_expand_4 1 rfl ?_
  refine j_callVI0 (As := [.int p1]) C d4_expand_5 mv4_144 (kX6_has _ _ tc h_rules (.ref h_rules_codes) c_rules_count p1) ⟨rfl, rfl, Nat.le_of_ble_eq_true rfl, Nat.le_of_ble_eq_true rfl⟩ rfl 1 rfl [1] rfl rfl rfl (Nat.le_of_ble_eq_true rfl) (fun x1 => ?_)
  refine j_join 21 (fun v2 => [(h_, .inr (4, [.ref h_rules, g_sets, g_table, g_input, g_synchronizing, .ref h_trace, .int c_traceLength, g_tree, g_errorParts, g_errorCount, .ref h_stack, .ref h_bringers, .int c_depth, g_index, .int c_steps])), (h_rules, .inr (6, [.ref h_rules_codes, .int c_rules_count])), (h_rules_codes, .inl (tc.1, 24, .inl c_rules_codes)), (h_trace, .inl (tc.1, 300, .inl c_trace)), (h_stack, .inl (tc.1, 65, .inl c_stack)), (h_bringers, .inl (tc.1, 65, .inl c_bringers))]) (fun v2 => []) (fun v2 => []) (fun v2 => ?_) (fun k3 hk3 => ?_)
  · exact j_vret C d4_expand_21 rfl
  · refine j_if_eq C d4_expand_8 ?_ ?_
    · exact j_sub [] rfl (hk3 _)
    · refine j_aload C d4_expand_11 0 rfl ?_
      refine j_get C d4_expand_12 fl4_122 0 rfl rfl ?_
      refine j_const C d4_expand_15 ?_
      refine j_icmp_lt C d4_expand_18 ?_ ?_
      · refine j_aload C d4_expand_22 0 rfl ?_
        refine j_get C d4_expand_23 fl4_15 0 rfl rfl ?_
        refine j_aload C d4_expand_26 0 rfl ?_
        refine j_get C d4_expand_27 fl4_122 0 rfl rfl ?_
        refine j_iload C d4_expand_30 1 rfl ?_
        refine j_iast C (fun f4 => [(h_, .inr (4, [.ref h_rules, g_sets, g_table, g_input, g_synchronizing, .ref h_trace, .int c_traceLength, g_tree, g_errorParts, g_errorCount, .ref h_stack, .ref h_bringers, .int c_depth, g_index, .int c_steps])), (h_rules, .inr (6, [.ref h_rules_codes, .int c_rules_count])), (h_rules_codes, .inl (tc.1, 24, .inl c_rules_codes)), (h_trace, .inl (tc.1, 300, .inl f4)), (h_stack, .inl (tc.1, 65, .inl c_stack)), (h_bringers, .inl (tc.1, 65, .inl c_bringers))]) d4_expand_31 3 rfl (fun _ => rfl) (fun f4 => ?_)
        refine j_aload C d4_expand_32 0 rfl ?_
        refine j_dup C d4_expand_33 rfl ?_
        refine j_get C d4_expand_34 fl4_122 0 rfl rfl ?_
        refine j_const C d4_expand_37 ?_
        refine j_iadd C d4_expand_38 ?_
        refine j_leti (fun x5 => ?_)
        refine j_putq C d4_expand_39 fq4_122 0 rfl rfl rfl (Nat.le_of_ble_eq_true rfl) (ws' := [(h_, .inr (4, [.ref h_rules, g_sets, g_table, g_input, g_synchronizing, .ref h_trace, .int x5, g_tree, g_errorParts, g_errorCount, .ref h_stack, .ref h_bringers, .int c_depth, g_index, .int c_steps])), (h_rules, .inr (6, [.ref h_rules_codes, .int c_rules_count])), (h_rules_codes, .inl (tc.1, 24, .inl c_rules_codes)), (h_trace, .inl (tc.1, 300, .inl f4)), (h_stack, .inl (tc.1, 65, .inl c_stack)), (h_bringers, .inl (tc.1, 65, .inl c_bringers))]) rfl ?_
        refine j_aload C d4_expand_42 0 rfl ?_
        refine j_dup C d4_expand_43 rfl ?_
        refine j_get C d4_expand_44 fl4_82 0 rfl rfl ?_
        refine j_const C d4_expand_47 ?_
        refine j_isub C d4_expand_48 ?_
        refine j_leti (fun x6 => ?_)
        refine j_putq C d4_expand_49 fq4_82 0 rfl rfl rfl (Nat.le_of_ble_eq_true rfl) (ws' := [(h_, .inr (4, [.ref h_rules, g_sets, g_table, g_input, g_synchronizing, .ref h_trace, .int x5, g_tree, g_errorParts, g_errorCount, .ref h_stack, .ref h_bringers, .int x6, g_index, .int c_steps])), (h_rules, .inr (6, [.ref h_rules_codes, .int c_rules_count])), (h_rules_codes, .inl (tc.1, 24, .inl c_rules_codes)), (h_trace, .inl (tc.1, 300, .inl f4)), (h_stack, .inl (tc.1, 65, .inl c_stack)), (h_bringers, .inl (tc.1, 65, .inl c_bringers))]) rfl ?_
        refine j_aload C d4_expand_52 0 rfl ?_
        refine j_get C d4_expand_53 fl4_34 0 rfl rfl ?_
        refine j_get C d4_expand_56 fl4_148 1 rfl rfl ?_
        refine j_iload C d4_expand_59 1 rfl ?_
        refine j_iald C d4_expand_60 2 rfl (fun x7 => ?_)
        refine j_istore C d4_expand_61 (by decide) (lv' := [(2, .int x7), (0, .ref h_), (1, .int p1)]) rfl ?_
        refine j_iload C d4_expand_62 0 rfl ?_
        refine j_callSI0 (As := [.int x7]) C d4_expand_63 ms4_151 (kX6_lengthOf _ _ tc x7) ⟨rfl, rfl, Nat.le_of_ble_eq_true rfl, Nat.le_of_ble_eq_true rfl⟩ rfl [] rfl rfl rfl (Nat.le_of_ble_eq_true rfl) (fun x8 => ?_)
        refine j_const C d4_expand_66 ?_
        refine j_isub C d4_expand_67 ?_
        refine j_leti (fun x9 => ?_)
        refine j_istore C d4_expand_68 (by decide) (lv' := [(3, .int x9), (2, .int x7), (0, .ref h_), (1, .int p1)]) rfl ?_
        refine j_join3 92 (fun v10 v11 v12 => [(h_, .inr (4, [.ref h_rules, g_sets, g_table, g_input, g_synchronizing, .ref h_trace, .int x5, g_tree, g_errorParts, g_errorCount, .ref h_stack, .ref h_bringers, .int v12, g_index, .int c_steps])), (h_rules, .inr (6, [.ref h_rules_codes, .int c_rules_count])), (h_rules_codes, .inl (tc.1, 24, .inl c_rules_codes)), (h_trace, .inl (tc.1, 300, .inl f4)), (h_stack, .inl (tc.1, 65, .inl v10)), (h_bringers, .inl (tc.1, 65, .inl v11))]) (fun v10 v11 v12 => []) (fun v10 v11 v12 => []) (fun v10 v11 v12 => ?_) (fun k13 hk13 => ?_)
        · exact j_vret C d4_expand_92 rfl
        · exact j_sub [2, 1, 0] rfl (j_loop4 (fun v14 v15 v16 v17 => [(h_, .inr (4, [.ref h_rules, g_sets, g_table, g_input, g_synchronizing, .ref h_trace, .int x5, g_tree, g_errorParts, g_errorCount, .ref h_stack, .ref h_bringers, .int v17, g_index, .int c_steps])), (h_rules, .inr (6, [.ref h_rules_codes, .int c_rules_count])), (h_rules_codes, .inl (tc.1, 24, .inl c_rules_codes)), (h_trace, .inl (tc.1, 300, .inl f4)), (h_stack, .inl (tc.1, 65, .inl v15)), (h_bringers, .inl (tc.1, 65, .inl v16))]) (fun v14 v15 v16 v17 => [(0, .ref h_), (2, .int x7), (3, .int v14)]) (fun rc18 hrc18 v14 v15 v16 v17 => wX4_expand_69 C h_ h_rules h_rules_codes h_trace h_stack h_bringers g_sets g_table g_input g_synchronizing g_tree g_errorParts g_errorCount g_index c_rules_codes c_rules_count c_steps f4 x5 x7 k13 hk13 rc18 hrc18 v14 v15 v16 v17) N _ _ _ _)
      · exact j_sub [] rfl (hk3 _)

theorem d4_move_0 : jda cX4_move 0 0 1 := Or.inl ⟨0, by decide +kernel⟩
theorem d4_move_1 : jd cX4_move 1 (.invokevirtual 68) 3 4 := by decide +kernel
theorem d4_move_4 : jds cX4_move 4 1 5 := Or.inl ⟨1, by decide +kernel⟩
theorem d4_move_5 : jdi cX4_move 5 1 6 := Or.inl ⟨1, by decide +kernel⟩
theorem d4_move_6 : jdk cX4_move 6 10 8 := Or.inr (Or.inl ⟨10, by decide +kernel⟩)
theorem d4_move_8 : jdb cX4_move 8 (.if_icmp .lt 25) 25 33 11 := by decide +kernel
theorem d4_move_11 : jda cX4_move 11 0 12 := Or.inl ⟨0, by decide +kernel⟩
theorem d4_move_12 : jda cX4_move 12 0 13 := Or.inl ⟨0, by decide +kernel⟩
theorem d4_move_13 : jd cX4_move 13 (.getfield 42) 3 16 := by decide +kernel
theorem d4_move_16 : jdi cX4_move 16 1 17 := Or.inl ⟨1, by decide +kernel⟩
theorem d4_move_17 : jdk cX4_move 17 10 19 := Or.inr (Or.inl ⟨10, by decide +kernel⟩)
theorem d4_move_19 : jd cX4_move 19 (.isub) 1 20 := by decide +kernel
theorem d4_move_20 : jda cX4_move 20 0 21 := Or.inl ⟨0, by decide +kernel⟩
theorem d4_move_21 : jd cX4_move 21 (.invokevirtual 134) 3 24 := by decide +kernel
theorem d4_move_24 : jd cX4_move 24 (.invokevirtual 137) 3 27 := by decide +kernel
theorem d4_move_27 : jd cX4_move 27 (.invokevirtual 141) 3 30 := by decide +kernel
theorem d4_move_30 : jdb cX4_move 30 (.goto 23) 23 53 33 := by decide +kernel
theorem d4_move_33 : jda cX4_move 33 0 34 := Or.inl ⟨0, by decide +kernel⟩
theorem d4_move_34 : jd cX4_move 34 (.dup) 1 35 := by decide +kernel
theorem d4_move_35 : jd cX4_move 35 (.getfield 82) 3 38 := by decide +kernel
theorem d4_move_38 : jdk cX4_move 38 1 39 := Or.inl ⟨1, by decide +kernel⟩
theorem d4_move_39 : jd cX4_move 39 (.isub) 1 40 := by decide +kernel
theorem d4_move_40 : jd cX4_move 40 (.putfield 82) 3 43 := by decide +kernel
theorem d4_move_43 : jda cX4_move 43 0 44 := Or.inl ⟨0, by decide +kernel⟩
theorem d4_move_44 : jd cX4_move 44 (.dup) 1 45 := by decide +kernel
theorem d4_move_45 : jd cX4_move 45 (.getfield 93) 3 48 := by decide +kernel
theorem d4_move_48 : jdk cX4_move 48 1 49 := Or.inl ⟨1, by decide +kernel⟩
theorem d4_move_49 : jd cX4_move 49 (.iadd) 1 50 := by decide +kernel
theorem d4_move_50 : jd cX4_move 50 (.putfield 93) 3 53 := by decide +kernel
theorem d4_move_53 : jda cX4_move 53 0 54 := Or.inl ⟨0, by decide +kernel⟩
theorem d4_move_54 : jd cX4_move 54 (.dup) 1 55 := by decide +kernel
theorem d4_move_55 : jd cX4_move 55 (.getfield 57) 3 58 := by decide +kernel
theorem d4_move_58 : jdk cX4_move 58 1 59 := Or.inl ⟨1, by decide +kernel⟩
theorem d4_move_59 : jd cX4_move 59 (.iadd) 1 60 := by decide +kernel
theorem d4_move_60 : jd cX4_move 60 (.putfield 57) 3 63 := by decide +kernel
theorem d4_move_63 : decode cX4_move 63 = .ok (.return_, 1) := by decide +kernel
set_option maxHeartbeats 4000000 in
set_option maxRecDepth 100000 in
theorem kX4_move (l : Launch) (D : va_G) (tc : jTC) (N : Nat) (h_ h_rules h_rules_codes h_table h_table_possible h_table_lowest h_input h_input_terminals h_trace h_stack h_bringers : Nat) (g_sets g_synchronizing g_tree g_errorParts g_errorCount g_table_sets g_table_select g_table_conflicts : Value) (c_rules_codes : (Nat → Int32)) (c_rules_count : Int32) (c_table_possible : (Nat → Int32)) (c_table_lowest : (Nat → Int32)) (c_input_terminals : (Nat → Int32)) (c_input_length : Int32) (c_trace : (Nat → Int32)) (c_traceLength : Int32) (c_stack : (Nat → Int32)) (c_bringers : (Nat → Int32)) (c_depth : Int32) (c_index : Int32) (c_steps : Int32) : ctV l D tc yX4_move (Cond.code yX4_move cX4_move 2 none :: jtb) ({ frames := 2, cells := 0, slots := 0, locals := 45 } : Room) [.ref h_] [(h_, .inr (4, [.ref h_rules, g_sets, .ref h_table, .ref h_input, g_synchronizing, .ref h_trace, .int c_traceLength, g_tree, g_errorParts, g_errorCount, .ref h_stack, .ref h_bringers, .int c_depth, .int c_index, .int c_steps])), (h_rules, .inr (6, [.ref h_rules_codes, .int c_rules_count])), (h_rules_codes, .inl (tc.1, 24, .inl c_rules_codes)), (h_table, .inr (8, [.ref h_rules, g_table_sets, g_table_select, .ref h_table_possible, .ref h_table_lowest, g_table_conflicts])), (h_table_possible, .inl (tc.1, 72, .inl c_table_possible)), (h_table_lowest, .inl (tc.1, 72, .inl c_table_lowest)), (h_input, .inr (3, [.ref h_input_terminals, .int c_input_length])), (h_input_terminals, .inl (tc.1, 40, .inl c_input_terminals)), (h_trace, .inl (tc.1, 300, .inl c_trace)), (h_stack, .inl (tc.1, 65, .inl c_stack)), (h_bringers, .inl (tc.1, 65, .inl c_bringers))] (fX4_move N c_rules_codes c_rules_count c_table_possible c_table_lowest c_input_terminals c_input_length c_trace c_traceLength c_stack c_bringers c_depth c_index c_steps) (fun (u : (Nat → Int32) × Int32 × (Nat → Int32) × (Nat → Int32) × Int32 × Int32 × Int32) => [(h_, .inr (4, [.ref h_rules, g_sets, .ref h_table, .ref h_input, g_synchronizing, .ref h_trace, .int u.2.1, g_tree, g_errorParts, g_errorCount, .ref h_stack, .ref h_bringers, .int u.2.2.2.2.1, .int u.2.2.2.2.2.1, .int u.2.2.2.2.2.2])), (h_rules, .inr (6, [.ref h_rules_codes, .int c_rules_count])), (h_rules_codes, .inl (tc.1, 24, .inl c_rules_codes)), (h_table, .inr (8, [.ref h_rules, g_table_sets, g_table_select, .ref h_table_possible, .ref h_table_lowest, g_table_conflicts])), (h_table_possible, .inl (tc.1, 72, .inl c_table_possible)), (h_table_lowest, .inl (tc.1, 72, .inl c_table_lowest)), (h_input, .inr (3, [.ref h_input_terminals, .int c_input_length])), (h_input_terminals, .inl (tc.1, 40, .inl c_input_terminals)), (h_trace, .inl (tc.1, 300, .inl u.1)), (h_stack, .inl (tc.1, 65, .inl u.2.2.1)), (h_bringers, .inl (tc.1, 65, .inl u.2.2.2.1))]) := by
  refine ctV_of (lv0 := [(0, .ref h_)]) (by decide +kernel) (Nat.le_of_ble_eq_true rfl) rfl (fun X C => ?_)
  unfold fX4_move
  refine j_aload C d4_move_0 0 rfl ?_
  refine j_callVI0 (As := []) C d4_move_1 mv4_68 (kX4_top _ _ tc h_ h_stack (.ref h_rules) g_sets (.ref h_table) (.ref h_input) g_synchronizing (.ref h_trace) (.int c_traceLength) g_tree g_errorParts g_errorCount (.ref h_bringers) (.int c_index) (.int c_steps) c_stack c_depth) ⟨rfl, rfl, Nat.le_of_ble_eq_true rfl, Nat.le_of_ble_eq_true rfl⟩ rfl 0 rfl [0, 9] rfl rfl rfl (Nat.le_of_ble_eq_true rfl) (fun x1 => ?_)
  refine j_istore C d4_move_4 (by decide) (lv' := [(1, .int x1), (0, .ref h_)]) rfl ?_
  refine j_iload C d4_move_5 0 rfl ?_
  refine j_const C d4_move_6 ?_
  refine j_join6 53 (fun v2 v3 v4 v5 v6 v7 => [(h_, .inr (4, [.ref h_rules, g_sets, .ref h_table, .ref h_input, g_synchronizing, .ref h_trace, .int v3, g_tree, g_errorParts, g_errorCount, .ref h_stack, .ref h_bringers, .int v6, .int v7, .int c_steps])), (h_rules, .inr (6, [.ref h_rules_codes, .int c_rules_count])), (h_rules_codes, .inl (tc.1, 24, .inl c_rules_codes)), (h_table, .inr (8, [.ref h_rules, g_table_sets, g_table_select, .ref h_table_possible, .ref h_table_lowest, g_table_conflicts])), (h_table_possible, .inl (tc.1, 72, .inl c_table_possible)), (h_table_lowest, .inl (tc.1, 72, .inl c_table_lowest)), (h_input, .inr (3, [.ref h_input_terminals, .int c_input_length])), (h_input_terminals, .inl (tc.1, 40, .inl c_input_terminals)), (h_trace, .inl (tc.1, 300, .inl v2)), (h_stack, .inl (tc.1, 65, .inl v4)), (h_bringers, .inl (tc.1, 65, .inl v5))]) (fun v2 v3 v4 v5 v6 v7 => [(0, .ref h_)]) (fun v2 v3 v4 v5 v6 v7 => []) (fun v2 v3 v4 v5 v6 v7 => ?_) (fun k9 hk9 => ?_)
  · refine j_aload C d4_move_53 0 rfl ?_
    refine j_dup C d4_move_54 rfl ?_
    refine j_get C d4_move_55 fl4_57 0 rfl rfl ?_
    refine j_const C d4_move_58 ?_
    refine j_iadd C d4_move_59 ?_
    refine j_leti (fun x8 => ?_)
    refine j_putq C d4_move_60 fq4_57 0 rfl rfl rfl (Nat.le_of_ble_eq_true rfl) (ws' := [(h_, .inr (4, [.ref h_rules, g_sets, .ref h_table, .ref h_input, g_synchronizing, .ref h_trace, .int v3, g_tree, g_errorParts, g_errorCount, .ref h_stack, .ref h_bringers, .int v6, .int v7, .int x8])), (h_rules, .inr (6, [.ref h_rules_codes, .int c_rules_count])), (h_rules_codes, .inl (tc.1, 24, .inl c_rules_codes)), (h_table, .inr (8, [.ref h_rules, g_table_sets, g_table_select, .ref h_table_possible, .ref h_table_lowest, g_table_conflicts])), (h_table_possible, .inl (tc.1, 72, .inl c_table_possible)), (h_table_lowest, .inl (tc.1, 72, .inl c_table_lowest)), (h_input, .inr (3, [.ref h_input_terminals, .int c_input_length])), (h_input_terminals, .inl (tc.1, 40, .inl c_input_terminals)), (h_trace, .inl (tc.1, 300, .inl v2)), (h_stack, .inl (tc.1, 65, .inl v4)), (h_bringers, .inl (tc.1, 65, .inl v5))]) rfl ?_
    exact j_vret C d4_move_63 rfl
  · refine j_icmp_lt C d4_move_8 ?_ ?_
    · refine j_aload C d4_move_33 1 rfl ?_
      refine j_dup C d4_move_34 rfl ?_
      refine j_get C d4_move_35 fl4_82 0 rfl rfl ?_
      refine j_const C d4_move_38 ?_
      refine j_isub C d4_move_39 ?_
      refine j_leti (fun x10 => ?_)
      refine j_putq C d4_move_40 fq4_82 0 rfl rfl rfl (Nat.le_of_ble_eq_true rfl) (ws' := [(h_, .inr (4, [.ref h_rules, g_sets, .ref h_table, .ref h_input, g_synchronizing, .ref h_trace, .int c_traceLength, g_tree, g_errorParts, g_errorCount, .ref h_stack, .ref h_bringers, .int x10, .int c_index, .int c_steps])), (h_rules, .inr (6, [.ref h_rules_codes, .int c_rules_count])), (h_rules_codes, .inl (tc.1, 24, .inl c_rules_codes)), (h_table, .inr (8, [.ref h_rules, g_table_sets, g_table_select, .ref h_table_possible, .ref h_table_lowest, g_table_conflicts])), (h_table_possible, .inl (tc.1, 72, .inl c_table_possible)), (h_table_lowest, .inl (tc.1, 72, .inl c_table_lowest)), (h_input, .inr (3, [.ref h_input_terminals, .int c_input_length])), (h_input_terminals, .inl (tc.1, 40, .inl c_input_terminals)), (h_trace, .inl (tc.1, 300, .inl c_trace)), (h_stack, .inl (tc.1, 65, .inl c_stack)), (h_bringers, .inl (tc.1, 65, .inl c_bringers))]) rfl ?_
      refine j_aload C d4_move_43 1 rfl ?_
      refine j_dup C d4_move_44 rfl ?_
      refine j_get C d4_move_45 fl4_93 0 rfl rfl ?_
      refine j_const C d4_move_48 ?_
      refine j_iadd C d4_move_49 ?_
      refine j_leti (fun x11 => ?_)
      refine j_putq C d4_move_50 fq4_93 0 rfl rfl rfl (Nat.le_of_ble_eq_true rfl) (ws' := [(h_, .inr (4, [.ref h_rules, g_sets, .ref h_table, .ref h_input, g_synchronizing, .ref h_trace, .int c_traceLength, g_tree, g_errorParts, g_errorCount, .ref h_stack, .ref h_bringers, .int x10, .int x11, .int c_steps])), (h_rules, .inr (6, [.ref h_rules_codes, .int c_rules_count])), (h_rules_codes, .inl (tc.1, 24, .inl c_rules_codes)), (h_table, .inr (8, [.ref h_rules, g_table_sets, g_table_select, .ref h_table_possible, .ref h_table_lowest, g_table_conflicts])), (h_table_possible, .inl (tc.1, 72, .inl c_table_possible)), (h_table_lowest, .inl (tc.1, 72, .inl c_table_lowest)), (h_input, .inr (3, [.ref h_input_terminals, .int c_input_length])), (h_input_terminals, .inl (tc.1, 40, .inl c_input_terminals)), (h_trace, .inl (tc.1, 300, .inl c_trace)), (h_stack, .inl (tc.1, 65, .inl c_stack)), (h_bringers, .inl (tc.1, 65, .inl c_bringers))]) rfl ?_
      exact j_sub [1] rfl (hk9 _ _ _ _ _ _)
    · refine j_aload C d4_move_11 1 rfl ?_
      refine j_aload C d4_move_12 1 rfl ?_
      refine j_get C d4_move_13 fl4_42 0 rfl rfl ?_
      refine j_iload C d4_move_16 0 rfl ?_
      refine j_const C d4_move_17 ?_
      refine j_isub C d4_move_19 ?_
      refine j_aload C d4_move_20 1 rfl ?_
      refine j_callVI0 (As := []) C d4_move_21 mv4_134 (kX4_token _ _ tc h_ h_input h_input_terminals (.ref h_rules) g_sets (.ref h_table) g_synchronizing (.ref h_trace) (.int c_traceLength) g_tree g_errorParts g_errorCount (.ref h_stack) (.ref h_bringers) (.int c_depth) (.int c_steps) c_input_terminals c_input_length c_index) ⟨rfl, rfl, Nat.le_of_ble_eq_true rfl, Nat.le_of_ble_eq_true rfl⟩ rfl 0 rfl [0, 6, 7] rfl rfl rfl (Nat.le_of_ble_eq_true rfl) (fun x12 => ?_)
      refine j_callVI0 (As := [.int (x1 - (10 : Int32)), .int x12]) C d4_move_24 mv4_137 (kX8_entry _ _ tc h_table h_table_possible h_table_lowest (.ref h_rules) g_table_sets g_table_select g_table_conflicts c_table_possible c_table_lowest (x1 - (10 : Int32)) x12) ⟨rfl, rfl, Nat.le_of_ble_eq_true rfl, Nat.le_of_ble_eq_true rfl⟩ rfl 3 rfl [3, 4, 5] rfl rfl rfl (Nat.le_of_ble_eq_true rfl) (fun x13 => ?_)
      refine j_callVV5 (As := [.int x13]) C d4_move_27 mv4_141 (kX4_expand _ _ tc N h_ h_rules h_rules_codes h_trace h_stack h_bringers g_sets (.ref h_table) (.ref h_input) g_synchronizing g_tree g_errorParts g_errorCount (.int c_index) c_rules_codes c_rules_count c_trace c_traceLength c_stack c_bringers c_depth c_steps x13) ⟨rfl, rfl, Nat.le_of_ble_eq_true rfl, Nat.le_of_ble_eq_true rfl⟩ rfl 0 rfl [0, 1, 2, 8, 9, 10] rfl rfl rfl (Nat.le_of_ble_eq_true rfl) (fun o14 o15 o16 o17 o18 => [(h_, .inr (4, [.ref h_rules, g_sets, .ref h_table, .ref h_input, g_synchronizing, .ref h_trace, .int o15, g_tree, g_errorParts, g_errorCount, .ref h_stack, .ref h_bringers, .int o18, .int c_index, .int c_steps])), (h_rules, .inr (6, [.ref h_rules_codes, .int c_rules_count])), (h_rules_codes, .inl (tc.1, 24, .inl c_rules_codes)), (h_table, .inr (8, [.ref h_rules, g_table_sets, g_table_select, .ref h_table_possible, .ref h_table_lowest, g_table_conflicts])), (h_table_possible, .inl (tc.1, 72, .inl c_table_possible)), (h_table_lowest, .inl (tc.1, 72, .inl c_table_lowest)), (h_input, .inr (3, [.ref h_input_terminals, .int c_input_length])), (h_input_terminals, .inl (tc.1, 40, .inl c_input_terminals)), (h_trace, .inl (tc.1, 300, .inl o14)), (h_stack, .inl (tc.1, 65, .inl o16)), (h_bringers, .inl (tc.1, 65, .inl o17))]) [(true, 0), (true, 1), (true, 2), (false, 3), (false, 4), (false, 5), (false, 6), (false, 7), (true, 3), (true, 4), (true, 5)] (fun _ => rfl) (by decide +kernel) (fun o14 o15 o16 o17 o18 => ?_)
      refine j_goto C d4_move_30 ?_
      exact j_sub [1] rfl (hk9 _ _ _ _ _ _)

theorem d4_parseInput_0 : jda cX4_parseInput 0 0 1 := Or.inl ⟨0, by decide +kernel⟩
theorem d4_parseInput_1 : jd cX4_parseInput 1 (.invokevirtual 50) 3 4 := by decide +kernel
theorem d4_parseInput_4 : jdk cX4_parseInput 4 0 5 := Or.inl ⟨0, by decide +kernel⟩
theorem d4_parseInput_5 : jds cX4_parseInput 5 1 6 := Or.inl ⟨1, by decide +kernel⟩
theorem d4_parseInput_6 : jdi cX4_parseInput 6 1 7 := Or.inl ⟨1, by decide +kernel⟩
theorem d4_parseInput_7 : jdk cX4_parseInput 7 300 10 := Or.inr (Or.inr ⟨300, by decide +kernel⟩)
theorem d4_parseInput_10 : jdb cX4_parseInput 10 (.if_icmp .gt 90) 90 100 13 := by decide +kernel
theorem d4_parseInput_13 : jda cX4_parseInput 13 0 14 := Or.inl ⟨0, by decide +kernel⟩
theorem d4_parseInput_14 : jd cX4_parseInput 14 (.invokevirtual 53) 3 17 := by decide +kernel
theorem d4_parseInput_17 : jdb cX4_parseInput 17 (.ifCond .eq 19) 19 36 20 := by decide +kernel
theorem d4_parseInput_20 : jda cX4_parseInput 20 0 21 := Or.inl ⟨0, by decide +kernel⟩
theorem d4_parseInput_21 : jd cX4_parseInput 21 (.getfield 21) 3 24 := by decide +kernel
theorem d4_parseInput_24 : jda cX4_parseInput 24 0 25 := Or.inl ⟨0, by decide +kernel⟩
theorem d4_parseInput_25 : jd cX4_parseInput 25 (.getfield 57) 3 28 := by decide +kernel
theorem d4_parseInput_28 : jd cX4_parseInput 28 (.invokevirtual 61) 3 31 := by decide +kernel
theorem d4_parseInput_31 : jda cX4_parseInput 31 0 32 := Or.inl ⟨0, by decide +kernel⟩
theorem d4_parseInput_32 : jd cX4_parseInput 32 (.getfield 57) 3 35 := by decide +kernel
theorem d4_parseInput_35 : decode cX4_parseInput 35 = .ok (.ireturn, 1) := by decide +kernel
theorem d4_parseInput_36 : jda cX4_parseInput 36 0 37 := Or.inl ⟨0, by decide +kernel⟩
theorem d4_parseInput_37 : jd cX4_parseInput 37 (.invokevirtual 65) 3 40 := by decide +kernel
theorem d4_parseInput_40 : jdb cX4_parseInput 40 (.ifCond .ne 6) 6 46 43 := by decide +kernel
theorem d4_parseInput_43 : jdk cX4_parseInput 43 (-5) 45 := Or.inr (Or.inl ⟨(-5), by decide +kernel⟩)
theorem d4_parseInput_45 : decode cX4_parseInput 45 = .ok (.ireturn, 1) := by decide +kernel
theorem d4_parseInput_46 : jda cX4_parseInput 46 0 47 := Or.inl ⟨0, by decide +kernel⟩
theorem d4_parseInput_47 : jd cX4_parseInput 47 (.getfield 57) 3 50 := by decide +kernel
theorem d4_parseInput_50 : jdk cX4_parseInput 50 300 53 := Or.inr (Or.inr ⟨300, by decide +kernel⟩)
theorem d4_parseInput_53 : jdb cX4_parseInput 53 (.if_icmp .lt 6) 6 59 56 := by decide +kernel
theorem d4_parseInput_56 : jdk cX4_parseInput 56 (-6) 58 := Or.inr (Or.inl ⟨(-6), by decide +kernel⟩)
theorem d4_parseInput_58 : decode cX4_parseInput 58 = .ok (.ireturn, 1) := by decide +kernel
theorem d4_parseInput_59 : jda cX4_parseInput 59 0 60 := Or.inl ⟨0, by decide +kernel⟩
theorem d4_parseInput_60 : jd cX4_parseInput 60 (.getfield 21) 3 63 := by decide +kernel
theorem d4_parseInput_63 : jda cX4_parseInput 63 0 64 := Or.inl ⟨0, by decide +kernel⟩
theorem d4_parseInput_64 : jd cX4_parseInput 64 (.getfield 57) 3 67 := by decide +kernel
theorem d4_parseInput_67 : jda cX4_parseInput 67 0 68 := Or.inl ⟨0, by decide +kernel⟩
theorem d4_parseInput_68 : jd cX4_parseInput 68 (.invokevirtual 68) 3 71 := by decide +kernel
theorem d4_parseInput_71 : jda cX4_parseInput 71 0 72 := Or.inl ⟨0, by decide +kernel⟩
theorem d4_parseInput_72 : jd cX4_parseInput 72 (.invokevirtual 72) 3 75 := by decide +kernel
theorem d4_parseInput_75 : jd cX4_parseInput 75 (.invokevirtual 75) 3 78 := by decide +kernel
theorem d4_parseInput_78 : jda cX4_parseInput 78 0 79 := Or.inl ⟨0, by decide +kernel⟩
theorem d4_parseInput_79 : jd cX4_parseInput 79 (.invokevirtual 79) 3 82 := by decide +kernel
theorem d4_parseInput_82 : jda cX4_parseInput 82 0 83 := Or.inl ⟨0, by decide +kernel⟩
theorem d4_parseInput_83 : jd cX4_parseInput 83 (.getfield 82) 3 86 := by decide +kernel
theorem d4_parseInput_86 : jdk cX4_parseInput 86 60 88 := Or.inr (Or.inl ⟨60, by decide +kernel⟩)
theorem d4_parseInput_88 : jdb cX4_parseInput 88 (.if_icmp .le 6) 6 94 91 := by decide +kernel
theorem d4_parseInput_91 : jdk cX4_parseInput 91 (-6) 93 := Or.inr (Or.inl ⟨(-6), by decide +kernel⟩)
theorem d4_parseInput_93 : decode cX4_parseInput 93 = .ok (.ireturn, 1) := by decide +kernel
theorem d4_parseInput_94 : jd cX4_parseInput 94 (.iinc 1 1) 3 97 := by decide +kernel
theorem d4_parseInput_97 : jdb cX4_parseInput 97 (.goto (-91)) (-91) 6 100 := by decide +kernel
theorem d4_parseInput_100 : jdk cX4_parseInput 100 (-6) 102 := Or.inr (Or.inl ⟨(-6), by decide +kernel⟩)
theorem d4_parseInput_102 : decode cX4_parseInput 102 = .ok (.ireturn, 1) := by decide +kernel
set_option maxHeartbeats 4000000 in
set_option maxRecDepth 100000 in
theorem wX4_parseInput_6 {X : jC} {tc : jTC} (C : jx X cX4_parseInput 2 RX4 (some .int) tc ({ frames := 3, cells := 0, slots := 0, locals := 66 } : Room)) (N : Nat) (h_ h_rules h_rules_codes h_table h_table_possible h_table_lowest h_input h_input_terminals h_trace h_tree h_tree_symbols h_tree_parents h_tree_heights h_stack h_bringers : Nat) (g_sets g_synchronizing g_errorParts g_errorCount g_table_sets g_table_select g_table_conflicts : Value) (c_rules_codes : (Nat → Int32)) (c_rules_count : Int32) (c_table_possible : (Nat → Int32)) (c_table_lowest : (Nat → Int32)) (c_input_terminals : (Nat → Int32)) (c_input_length : Int32) (o2 : Int32) (k18 : ((Nat → Int32) → Int32 → (Nat → Int32) → (Nat → Int32) → (Nat → Int32) → (Nat → Int32) → (Nat → Int32) → Int32 → Int32 → Int32 → Option (Int32 × (Nat → Int32) × Int32 × (Nat → Int32) × (Nat → Int32) × (Nat → Int32) × Int32 × (Nat → Int32) × (Nat → Int32) × Int32 × Int32 × Int32))) (hk18 : ∀ (v48 : (Nat → Int32)) (v49 : Int32) (v50 : (Nat → Int32)) (v51 : (Nat → Int32)) (v52 : (Nat → Int32)) (v53 : (Nat → Int32)) (v54 : (Nat → Int32)) (v55 : Int32) (v56 : Int32) (v57 : Int32), jo X 2 (0, 0) (jQI X (fun (u : (Nat → Int32) × Int32 × (Nat → Int32) × (Nat → Int32) × (Nat → Int32) × Int32 × (Nat → Int32) × (Nat → Int32) × Int32 × Int32 × Int32) => [(h_, .inr (4, [.ref h_rules, g_sets, .ref h_table, .ref h_input, g_synchronizing, .ref h_trace, .int u.2.1, .ref h_tree, g_errorParts, g_errorCount, .ref h_stack, .ref h_bringers, .int u.2.2.2.2.2.2.2.2.1, .int u.2.2.2.2.2.2.2.2.2.1, .int u.2.2.2.2.2.2.2.2.2.2])), (h_rules, .inr (6, [.ref h_rules_codes, .int c_rules_count])), (h_rules_codes, .inl (tc.1, 24, .inl c_rules_codes)), (h_table, .inr (8, [.ref h_rules, g_table_sets, g_table_select, .ref h_table_possible, .ref h_table_lowest, g_table_conflicts])), (h_table_possible, .inl (tc.1, 72, .inl c_table_possible)), (h_table_lowest, .inl (tc.1, 72, .inl c_table_lowest)), (h_input, .inr (3, [.ref h_input_terminals, .int c_input_length])), (h_input_terminals, .inl (tc.1, 40, .inl c_input_terminals)), (h_trace, .inl (tc.1, 300, .inl u.1)), (h_tree, .inr (9, [.ref h_tree_symbols, .ref h_tree_parents, .ref h_tree_heights, .int u.2.2.2.2.2.1])), (h_tree_symbols, .inl (tc.1, 300, .inl u.2.2.1)), (h_tree_parents, .inl (tc.1, 300, .inl u.2.2.2.1)), (h_tree_heights, .inl (tc.1, 300, .inl u.2.2.2.2.1)), (h_stack, .inl (tc.1, 65, .inl u.2.2.2.2.2.2.1)), (h_bringers, .inl (tc.1, 65, .inl u.2.2.2.2.2.2.2.1))])) (k18 v48 v49 v50 v51 v52 v53 v54 v55 v56 v57) [(h_, .inr (4, [.ref h_rules, g_sets, .ref h_table, .ref h_input, g_synchronizing, .ref h_trace, .int v49, .ref h_tree, g_errorParts, g_errorCount, .ref h_stack, .ref h_bringers, .int v55, .int v56, .int v57])), (h_rules, .inr (6, [.ref h_rules_codes, .int c_rules_count])), (h_rules_codes, .inl (tc.1, 24, .inl c_rules_codes)), (h_table, .inr (8, [.ref h_rules, g_table_sets, g_table_select, .ref h_table_possible, .ref h_table_lowest, g_table_conflicts])), (h_table_possible, .inl (tc.1, 72, .inl c_table_possible)), (h_table_lowest, .inl (tc.1, 72, .inl c_table_lowest)), (h_input, .inr (3, [.ref h_input_terminals, .int c_input_length])), (h_input_terminals, .inl (tc.1, 40, .inl c_input_terminals)), (h_trace, .inl (tc.1, 300, .inl v48)), (h_tree, .inr (9, [.ref h_tree_symbols, .ref h_tree_parents, .ref h_tree_heights, .int o2])), (h_tree_symbols, .inl (tc.1, 300, .inl v50)), (h_tree_parents, .inl (tc.1, 300, .inl v51)), (h_tree_heights, .inl (tc.1, 300, .inl v52)), (h_stack, .inl (tc.1, 65, .inl v53)), (h_bringers, .inl (tc.1, 65, .inl v54))] 100 [] []) (rc30 : Int32 → (Nat → Int32) → Int32 → (Nat → Int32) → (Nat → Int32) → (Nat → Int32) → (Nat → Int32) → (Nat → Int32) → Int32 → Int32 → Int32 → Option (Int32 × (Nat → Int32) × Int32 × (Nat → Int32) × (Nat → Int32) × (Nat → Int32) × Int32 × (Nat → Int32) × (Nat → Int32) × Int32 × Int32 × Int32)) (hrc30 : ∀ (v19 : Int32) (v20 : (Nat → Int32)) (v21 : Int32) (v22 : (Nat → Int32)) (v23 : (Nat → Int32)) (v24 : (Nat → Int32)) (v25 : (Nat → Int32)) (v26 : (Nat → Int32)) (v27 : Int32) (v28 : Int32) (v29 : Int32), jo X 2 (0, 0) (jQI X (fun (u : (Nat → Int32) × Int32 × (Nat → Int32) × (Nat → Int32) × (Nat → Int32) × Int32 × (Nat → Int32) × (Nat → Int32) × Int32 × Int32 × Int32) => [(h_, .inr (4, [.ref h_rules, g_sets, .ref h_table, .ref h_input, g_synchronizing, .ref h_trace, .int u.2.1, .ref h_tree, g_errorParts, g_errorCount, .ref h_stack, .ref h_bringers, .int u.2.2.2.2.2.2.2.2.1, .int u.2.2.2.2.2.2.2.2.2.1, .int u.2.2.2.2.2.2.2.2.2.2])), (h_rules, .inr (6, [.ref h_rules_codes, .int c_rules_count])), (h_rules_codes, .inl (tc.1, 24, .inl c_rules_codes)), (h_table, .inr (8, [.ref h_rules, g_table_sets, g_table_select, .ref h_table_possible, .ref h_table_lowest, g_table_conflicts])), (h_table_possible, .inl (tc.1, 72, .inl c_table_possible)), (h_table_lowest, .inl (tc.1, 72, .inl c_table_lowest)), (h_input, .inr (3, [.ref h_input_terminals, .int c_input_length])), (h_input_terminals, .inl (tc.1, 40, .inl c_input_terminals)), (h_trace, .inl (tc.1, 300, .inl u.1)), (h_tree, .inr (9, [.ref h_tree_symbols, .ref h_tree_parents, .ref h_tree_heights, .int u.2.2.2.2.2.1])), (h_tree_symbols, .inl (tc.1, 300, .inl u.2.2.1)), (h_tree_parents, .inl (tc.1, 300, .inl u.2.2.2.1)), (h_tree_heights, .inl (tc.1, 300, .inl u.2.2.2.2.1)), (h_stack, .inl (tc.1, 65, .inl u.2.2.2.2.2.2.1)), (h_bringers, .inl (tc.1, 65, .inl u.2.2.2.2.2.2.2.1))])) (rc30 v19 v20 v21 v22 v23 v24 v25 v26 v27 v28 v29) [(h_, .inr (4, [.ref h_rules, g_sets, .ref h_table, .ref h_input, g_synchronizing, .ref h_trace, .int v21, .ref h_tree, g_errorParts, g_errorCount, .ref h_stack, .ref h_bringers, .int v27, .int v28, .int v29])), (h_rules, .inr (6, [.ref h_rules_codes, .int c_rules_count])), (h_rules_codes, .inl (tc.1, 24, .inl c_rules_codes)), (h_table, .inr (8, [.ref h_rules, g_table_sets, g_table_select, .ref h_table_possible, .ref h_table_lowest, g_table_conflicts])), (h_table_possible, .inl (tc.1, 72, .inl c_table_possible)), (h_table_lowest, .inl (tc.1, 72, .inl c_table_lowest)), (h_input, .inr (3, [.ref h_input_terminals, .int c_input_length])), (h_input_terminals, .inl (tc.1, 40, .inl c_input_terminals)), (h_trace, .inl (tc.1, 300, .inl v20)), (h_tree, .inr (9, [.ref h_tree_symbols, .ref h_tree_parents, .ref h_tree_heights, .int o2])), (h_tree_symbols, .inl (tc.1, 300, .inl v22)), (h_tree_parents, .inl (tc.1, 300, .inl v23)), (h_tree_heights, .inl (tc.1, 300, .inl v24)), (h_stack, .inl (tc.1, 65, .inl v25)), (h_bringers, .inl (tc.1, 65, .inl v26))] 6 [(0, .ref h_), (1, .int v19)] []) (v19 : Int32) (v20 : (Nat → Int32)) (v21 : Int32) (v22 : (Nat → Int32)) (v23 : (Nat → Int32)) (v24 : (Nat → Int32)) (v25 : (Nat → Int32)) (v26 : (Nat → Int32)) (v27 : Int32) (v28 : Int32) (v29 : Int32) : jo X 2 (0, 0) (jQI X (fun (u : (Nat → Int32) × Int32 × (Nat → Int32) × (Nat → Int32) × (Nat → Int32) × Int32 × (Nat → Int32) × (Nat → Int32) × Int32 × Int32 × Int32) => [(h_, .inr (4, [.ref h_rules, g_sets, .ref h_table, .ref h_input, g_synchronizing, .ref h_trace, .int u.2.1, .ref h_tree, g_errorParts, g_errorCount, .ref h_stack, .ref h_bringers, .int u.2.2.2.2.2.2.2.2.1, .int u.2.2.2.2.2.2.2.2.2.1, .int u.2.2.2.2.2.2.2.2.2.2])), (h_rules, .inr (6, [.ref h_rules_codes, .int c_rules_count])), (h_rules_codes, .inl (tc.1, 24, .inl c_rules_codes)), (h_table, .inr (8, [.ref h_rules, g_table_sets, g_table_select, .ref h_table_possible, .ref h_table_lowest, g_table_conflicts])), (h_table_possible, .inl (tc.1, 72, .inl c_table_possible)), (h_table_lowest, .inl (tc.1, 72, .inl c_table_lowest)), (h_input, .inr (3, [.ref h_input_terminals, .int c_input_length])), (h_input_terminals, .inl (tc.1, 40, .inl c_input_terminals)), (h_trace, .inl (tc.1, 300, .inl u.1)), (h_tree, .inr (9, [.ref h_tree_symbols, .ref h_tree_parents, .ref h_tree_heights, .int u.2.2.2.2.2.1])), (h_tree_symbols, .inl (tc.1, 300, .inl u.2.2.1)), (h_tree_parents, .inl (tc.1, 300, .inl u.2.2.2.1)), (h_tree_heights, .inl (tc.1, 300, .inl u.2.2.2.2.1)), (h_stack, .inl (tc.1, 65, .inl u.2.2.2.2.2.2.1)), (h_bringers, .inl (tc.1, 65, .inl u.2.2.2.2.2.2.2.1))])) (bX4_parseInput_6 N c_rules_codes c_rules_count c_table_possible c_table_lowest c_input_terminals c_input_length o2 k18 rc30 v19 v20 v21 v22 v23 v24 v25 v26 v27 v28 v29) [(h_, .inr (4, [.ref h_rules, g_sets, .ref h_table, .ref h_input, g_synchronizing, .ref h_trace, .int v21, .ref h_tree, g_errorParts, g_errorCount, .ref h_stack, .ref h_bringers, .int v27, .int v28, .int v29])), (h_rules, .inr (6, [.ref h_rules_codes, .int c_rules_count])), (h_rules_codes, .inl (tc.1, 24, .inl c_rules_codes)), (h_table, .inr (8, [.ref h_rules, g_table_sets, g_table_select, .ref h_table_possible, .ref h_table_lowest, g_table_conflicts])), (h_table_possible, .inl (tc.1, 72, .inl c_table_possible)), (h_table_lowest, .inl (tc.1, 72, .inl c_table_lowest)), (h_input, .inr (3, [.ref h_input_terminals, .int c_input_length])), (h_input_terminals, .inl (tc.1, 40, .inl c_input_terminals)), (h_trace, .inl (tc.1, 300, .inl v20)), (h_tree, .inr (9, [.ref h_tree_symbols, .ref h_tree_parents, .ref h_tree_heights, .int o2])), (h_tree_symbols, .inl (tc.1, 300, .inl v22)), (h_tree_parents, .inl (tc.1, 300, .inl v23)), (h_tree_heights, .inl (tc.1, 300, .inl v24)), (h_stack, .inl (tc.1, 65, .inl v25)), (h_bringers, .inl (tc.1, 65, .inl v26))] 6 [(0, .ref h_), (1, .int v19)] [] := by
  unfold bX4_parseInput_6
  refine j_iload C d4_parseInput_6 1 rfl ?_
  refine j_const C d4_parseInput_7 ?_
  refine j_icmp_gt C d4_parseInput_10 ?_ ?_
  · exact j_sub [] rfl (hk18 _ _ _ _ _ _ _ _ _ _)
  · refine j_aload C d4_parseInput_13 0 rfl ?_
    refine j_callVI0 (As := []) C d4_parseInput_14 mv4_53 (kX4_accepts _ _ tc h_ h_input h_input_terminals (.ref h_rules) g_sets (.ref h_table) g_synchronizing (.ref h_trace) (.int v21) (.ref h_tree) g_errorParts g_errorCount (.ref h_stack) (.ref h_bringers) (.int v29) c_input_terminals c_input_length v27 v28) ⟨rfl, rfl, Nat.le_of_ble_eq_true rfl, Nat.le_of_ble_eq_true rfl⟩ rfl 0 rfl [0, 6, 7] rfl rfl rfl (Nat.le_of_ble_eq_true rfl) (fun x31 => ?_)
    refine j_if_eq C d4_parseInput_17 ?_ ?_
    · refine j_aload C d4_parseInput_36 0 rfl ?_
      refine j_callVI0 (As := []) C d4_parseInput_37 mv4_65 (kX4_canMove _ _ tc h_ h_table h_table_possible h_table_lowest h_input h_input_terminals h_stack (.ref h_rules) g_sets g_synchronizing (.ref h_trace) (.int v21) (.ref h_tree) g_errorParts g_errorCount (.ref h_bringers) (.int v29) (.ref h_rules) g_table_sets g_table_select g_table_conflicts c_table_possible c_table_lowest c_input_terminals c_input_length v25 v27 v28) ⟨rfl, rfl, Nat.le_of_ble_eq_true rfl, Nat.le_of_ble_eq_true rfl⟩ rfl 0 rfl [0, 3, 4, 5, 6, 7, 13] rfl rfl rfl (Nat.le_of_ble_eq_true rfl) (fun x32 => ?_)
      refine j_if_ne C d4_parseInput_40 ?_ ?_
      · refine j_aload C d4_parseInput_46 0 rfl ?_
        refine j_get C d4_parseInput_47 fl4_57 0 rfl rfl ?_
        refine j_const C d4_parseInput_50 ?_
        refine j_icmp_lt C d4_parseInput_53 ?_ ?_
        · refine j_aload C d4_parseInput_59 0 rfl ?_
          refine j_get C d4_parseInput_60 fl4_21 0 rfl rfl ?_
          refine j_aload C d4_parseInput_63 0 rfl ?_
          refine j_get C d4_parseInput_64 fl4_57 0 rfl rfl ?_
          refine j_aload C d4_parseInput_67 0 rfl ?_
          refine j_callVI0 (As := []) C d4_parseInput_68 mv4_68 (kX4_top _ _ tc h_ h_stack (.ref h_rules) g_sets (.ref h_table) (.ref h_input) g_synchronizing (.ref h_trace) (.int v21) (.ref h_tree) g_errorParts g_errorCount (.ref h_bringers) (.int v28) (.int v29) v25 v27) ⟨rfl, rfl, Nat.le_of_ble_eq_true rfl, Nat.le_of_ble_eq_true rfl⟩ rfl 0 rfl [0, 13] rfl rfl rfl (Nat.le_of_ble_eq_true rfl) (fun x33 => ?_)
          refine j_aload C d4_parseInput_71 0 rfl ?_
          refine j_callVI0 (As := []) C d4_parseInput_72 mv4_72 (kX4_bringer _ _ tc h_ h_bringers (.ref h_rules) g_sets (.ref h_table) (.ref h_input) g_synchronizing (.ref h_trace) (.int v21) (.ref h_tree) g_errorParts g_errorCount (.ref h_stack) (.int v28) (.int v29) v26 v27) ⟨rfl, rfl, Nat.le_of_ble_eq_true rfl, Nat.le_of_ble_eq_true rfl⟩ rfl 0 rfl [0, 14] rfl rfl rfl (Nat.le_of_ble_eq_true rfl) (fun x34 => ?_)
          refine j_callVV3 (As := [.int v29, .int x33, .int x34]) C d4_parseInput_75 mv4_75 (kX9_note _ _ tc h_tree h_tree_symbols h_tree_parents h_tree_heights (.int o2) v22 v23 v24 v29 x33 x34) ⟨rfl, rfl, Nat.le_of_ble_eq_true rfl, Nat.le_of_ble_eq_true rfl⟩ rfl 9 rfl [9, 10, 11, 12] rfl rfl rfl (Nat.le_of_ble_eq_true rfl) (fun o35 o36 o37 => [(h_, .inr (4, [.ref h_rules, g_sets, .ref h_table, .ref h_input, g_synchronizing, .ref h_trace, .int v21, .ref h_tree, g_errorParts, g_errorCount, .ref h_stack, .ref h_bringers, .int v27, .int v28, .int v29])), (h_rules, .inr (6, [.ref h_rules_codes, .int c_rules_count])), (h_rules_codes, .inl (tc.1, 24, .inl c_rules_codes)), (h_table, .inr (8, [.ref h_rules, g_table_sets, g_table_select, .ref h_table_possible, .ref h_table_lowest, g_table_conflicts])), (h_table_possible, .inl (tc.1, 72, .inl c_table_possible)), (h_table_lowest, .inl (tc.1, 72, .inl c_table_lowest)), (h_input, .inr (3, [.ref h_input_terminals, .int c_input_length])), (h_input_terminals, .inl (tc.1, 40, .inl c_input_terminals)), (h_trace, .inl (tc.1, 300, .inl v20)), (h_tree, .inr (9, [.ref h_tree_symbols, .ref h_tree_parents, .ref h_tree_heights, .int o2])), (h_tree_symbols, .inl (tc.1, 300, .inl o35)), (h_tree_parents, .inl (tc.1, 300, .inl o36)), (h_tree_heights, .inl (tc.1, 300, .inl o37)), (h_stack, .inl (tc.1, 65, .inl v25)), (h_bringers, .inl (tc.1, 65, .inl v26))]) [(false, 0), (false, 1), (false, 2), (false, 3), (false, 4), (false, 5), (false, 6), (false, 7), (false, 8), (true, 0), (true, 1), (true, 2), (true, 3), (false, 13), (false, 14)] (fun _ => rfl) (by decide +kernel) (fun o35 o36 o37 => ?_)
          refine j_aload C d4_parseInput_78 0 rfl ?_
          refine j_callVV7 (As := []) C d4_parseInput_79 mv4_79 (kX4_move _ _ tc N h_ h_rules h_rules_codes h_table h_table_possible h_table_lowest h_input h_input_terminals h_trace h_stack h_bringers g_sets g_synchronizing (.ref h_tree) g_errorParts g_errorCount g_table_sets g_table_select g_table_conflicts c_rules_codes c_rules_count c_table_possible c_table_lowest c_input_terminals c_input_length v20 v21 v25 v26 v27 v28 v29) ⟨rfl, rfl, Nat.le_of_ble_eq_true rfl, Nat.le_of_ble_eq_true rfl⟩ rfl 0 rfl [0, 1, 2, 3, 4, 5, 6, 7, 8, 13, 14] rfl rfl rfl (Nat.le_of_ble_eq_true rfl) (fun o38 o39 o40 o41 o42 o43 o44 => [(h_, .inr (4, [.ref h_rules, g_sets, .ref h_table, .ref h_input, g_synchronizing, .ref h_trace, .int o39, .ref h_tree, g_errorParts, g_errorCount, .ref h_stack, .ref h_bringers, .int o42, .int o43, .int o44])), (h_rules, .inr (6, [.ref h_rules_codes, .int c_rules_count])), (h_rules_codes, .inl (tc.1, 24, .inl c_rules_codes)), (h_table, .inr (8, [.ref h_rules, g_table_sets, g_table_select, .ref h_table_possible, .ref h_table_lowest, g_table_conflicts])), (h_table_possible, .inl (tc.1, 72, .inl c_table_possible)), (h_table_lowest, .inl (tc.1, 72, .inl c_table_lowest)), (h_input, .inr (3, [.ref h_input_terminals, .int c_input_length])), (h_input_terminals, .inl (tc.1, 40, .inl c_input_terminals)), (h_trace, .inl (tc.1, 300, .inl o38)), (h_tree, .inr (9, [.ref h_tree_symbols, .ref h_tree_parents, .ref h_tree_heights, .int o2])), (h_tree_symbols, .inl (tc.1, 300, .inl o35)), (h_tree_parents, .inl (tc.1, 300, .inl o36)), (h_tree_heights, .inl (tc.1, 300, .inl o37)), (h_stack, .inl (tc.1, 65, .inl o40)), (h_bringers, .inl (tc.1, 65, .inl o41))]) [(true, 0), (true, 1), (true, 2), (true, 3), (true, 4), (true, 5), (true, 6), (true, 7), (true, 8), (false, 9), (false, 10), (false, 11), (false, 12), (true, 9), (true, 10)] (fun _ => rfl) (by decide +kernel) (fun o38 o39 o40 o41 o42 o43 o44 => ?_)
          refine j_aload C d4_parseInput_82 0 rfl ?_
          refine j_get C d4_parseInput_83 fl4_82 0 rfl rfl ?_
          refine j_const C d4_parseInput_86 ?_
          refine j_icmp_le C d4_parseInput_88 ?_ ?_
          · refine j_iincN C (fun x45 => [(1, .int x45), (0, .ref h_)]) d4_parseInput_94 1 rfl (by decide +kernel) (by decide) (fun _ => rfl) (fun x45 => ?_)
            refine j_goto C d4_parseInput_97 ?_
            exact j_sub [1, 0] rfl (hrc30 _ _ _ _ _ _ _ _ _ _ _)
          · refine j_const C d4_parseInput_91 ?_
            exact j_iret C d4_parseInput_93 rfl
        · refine j_const C d4_parseInput_56 ?_
          exact j_iret C d4_parseInput_58 rfl
      · refine j_const C d4_parseInput_43 ?_
        exact j_iret C d4_parseInput_45 rfl
    · refine j_aload C d4_parseInput_20 0 rfl ?_
      refine j_get C d4_parseInput_21 fl4_21 0 rfl rfl ?_
      refine j_aload C d4_parseInput_24 0 rfl ?_
      refine j_get C d4_parseInput_25 fl4_57 0 rfl rfl ?_
      refine j_callVV2 (As := [.int v29]) C d4_parseInput_28 mv4_61 (kX9_finish _ _ tc N h_tree h_tree_parents h_tree_heights (.ref h_tree_symbols) v23 v24 o2 v29) ⟨rfl, rfl, Nat.le_of_ble_eq_true rfl, Nat.le_of_ble_eq_true rfl⟩ rfl 9 rfl [9, 11, 12] rfl rfl rfl (Nat.le_of_ble_eq_true rfl) (fun o46 o47 => [(h_, .inr (4, [.ref h_rules, g_sets, .ref h_table, .ref h_input, g_synchronizing, .ref h_trace, .int v21, .ref h_tree, g_errorParts, g_errorCount, .ref h_stack, .ref h_bringers, .int v27, .int v28, .int v29])), (h_rules, .inr (6, [.ref h_rules_codes, .int c_rules_count])), (h_rules_codes, .inl (tc.1, 24, .inl c_rules_codes)), (h_table, .inr (8, [.ref h_rules, g_table_sets, g_table_select, .ref h_table_possible, .ref h_table_lowest, g_table_conflicts])), (h_table_possible, .inl (tc.1, 72, .inl c_table_possible)), (h_table_lowest, .inl (tc.1, 72, .inl c_table_lowest)), (h_input, .inr (3, [.ref h_input_terminals, .int c_input_length])), (h_input_terminals, .inl (tc.1, 40, .inl c_input_terminals)), (h_trace, .inl (tc.1, 300, .inl v20)), (h_tree, .inr (9, [.ref h_tree_symbols, .ref h_tree_parents, .ref h_tree_heights, .int o47])), (h_tree_symbols, .inl (tc.1, 300, .inl v22)), (h_tree_parents, .inl (tc.1, 300, .inl v23)), (h_tree_heights, .inl (tc.1, 300, .inl o46)), (h_stack, .inl (tc.1, 65, .inl v25)), (h_bringers, .inl (tc.1, 65, .inl v26))]) [(false, 0), (false, 1), (false, 2), (false, 3), (false, 4), (false, 5), (false, 6), (false, 7), (false, 8), (true, 0), (false, 10), (true, 1), (true, 2), (false, 13), (false, 14)] (fun _ => rfl) (by decide +kernel) (fun o46 o47 => ?_)
      refine j_aload C d4_parseInput_31 0 rfl ?_
      refine j_get C d4_parseInput_32 fl4_57 0 rfl rfl ?_
      exact j_iret C d4_parseInput_35 rfl

set_option maxHeartbeats 4000000 in
set_option maxRecDepth 100000 in
theorem kX4_parseInput (l : Launch) (D : va_G) (tc : jTC) (N : Nat) (h_ h_rules h_rules_codes h_table h_table_possible h_table_lowest h_input h_input_terminals h_trace h_tree h_tree_symbols h_tree_parents h_tree_heights h_stack h_bringers : Nat) (g_sets g_synchronizing g_errorParts g_errorCount g_table_sets g_table_select g_table_conflicts : Value) (c_rules_codes : (Nat → Int32)) (c_rules_count : Int32) (c_table_possible : (Nat → Int32)) (c_table_lowest : (Nat → Int32)) (c_input_terminals : (Nat → Int32)) (c_input_length : Int32) (c_trace : (Nat → Int32)) (c_traceLength : Int32) (c_tree_symbols : (Nat → Int32)) (c_tree_parents : (Nat → Int32)) (c_tree_heights : (Nat → Int32)) (c_tree_count : Int32) (c_stack : (Nat → Int32)) (c_bringers : (Nat → Int32)) (c_depth : Int32) (c_index : Int32) (c_steps : Int32) : ctI l D tc yX4_parseInput (Cond.code yX4_parseInput cX4_parseInput 2 (some .int) :: jtb) ({ frames := 3, cells := 0, slots := 0, locals := 66 } : Room) [.ref h_] [(h_, .inr (4, [.ref h_rules, g_sets, .ref h_table, .ref h_input, g_synchronizing, .ref h_trace, .int c_traceLength, .ref h_tree, g_errorParts, g_errorCount, .ref h_stack, .ref h_bringers, .int c_depth, .int c_index, .int c_steps])), (h_rules, .inr (6, [.ref h_rules_codes, .int c_rules_count])), (h_rules_codes, .inl (tc.1, 24, .inl c_rules_codes)), (h_table, .inr (8, [.ref h_rules, g_table_sets, g_table_select, .ref h_table_possible, .ref h_table_lowest, g_table_conflicts])), (h_table_possible, .inl (tc.1, 72, .inl c_table_possible)), (h_table_lowest, .inl (tc.1, 72, .inl c_table_lowest)), (h_input, .inr (3, [.ref h_input_terminals, .int c_input_length])), (h_input_terminals, .inl (tc.1, 40, .inl c_input_terminals)), (h_trace, .inl (tc.1, 300, .inl c_trace)), (h_tree, .inr (9, [.ref h_tree_symbols, .ref h_tree_parents, .ref h_tree_heights, .int c_tree_count])), (h_tree_symbols, .inl (tc.1, 300, .inl c_tree_symbols)), (h_tree_parents, .inl (tc.1, 300, .inl c_tree_parents)), (h_tree_heights, .inl (tc.1, 300, .inl c_tree_heights)), (h_stack, .inl (tc.1, 65, .inl c_stack)), (h_bringers, .inl (tc.1, 65, .inl c_bringers))] (fX4_parseInput N c_rules_codes c_rules_count c_table_possible c_table_lowest c_input_terminals c_input_length c_trace c_traceLength c_tree_symbols c_tree_parents c_tree_heights c_tree_count c_stack c_bringers c_depth c_index c_steps) (fun (u : (Nat → Int32) × Int32 × (Nat → Int32) × (Nat → Int32) × (Nat → Int32) × Int32 × (Nat → Int32) × (Nat → Int32) × Int32 × Int32 × Int32) => [(h_, .inr (4, [.ref h_rules, g_sets, .ref h_table, .ref h_input, g_synchronizing, .ref h_trace, .int u.2.1, .ref h_tree, g_errorParts, g_errorCount, .ref h_stack, .ref h_bringers, .int u.2.2.2.2.2.2.2.2.1, .int u.2.2.2.2.2.2.2.2.2.1, .int u.2.2.2.2.2.2.2.2.2.2])), (h_rules, .inr (6, [.ref h_rules_codes, .int c_rules_count])), (h_rules_codes, .inl (tc.1, 24, .inl c_rules_codes)), (h_table, .inr (8, [.ref h_rules, g_table_sets, g_table_select, .ref h_table_possible, .ref h_table_lowest, g_table_conflicts])), (h_table_possible, .inl (tc.1, 72, .inl c_table_possible)), (h_table_lowest, .inl (tc.1, 72, .inl c_table_lowest)), (h_input, .inr (3, [.ref h_input_terminals, .int c_input_length])), (h_input_terminals, .inl (tc.1, 40, .inl c_input_terminals)), (h_trace, .inl (tc.1, 300, .inl u.1)), (h_tree, .inr (9, [.ref h_tree_symbols, .ref h_tree_parents, .ref h_tree_heights, .int u.2.2.2.2.2.1])), (h_tree_symbols, .inl (tc.1, 300, .inl u.2.2.1)), (h_tree_parents, .inl (tc.1, 300, .inl u.2.2.2.1)), (h_tree_heights, .inl (tc.1, 300, .inl u.2.2.2.2.1)), (h_stack, .inl (tc.1, 65, .inl u.2.2.2.2.2.2.1)), (h_bringers, .inl (tc.1, 65, .inl u.2.2.2.2.2.2.2.1))]) := by
  refine ctI_of (lv0 := [(0, .ref h_)]) (by decide +kernel) (Nat.le_of_ble_eq_true rfl) rfl (fun X C => ?_)
  unfold fX4_parseInput
  refine j_aload C d4_parseInput_0 0 rfl ?_
  refine j_callVV7 (As := []) C d4_parseInput_1 mv4_50 (kX4_begin _ _ tc h_ h_tree h_stack h_bringers (.ref h_rules) g_sets (.ref h_table) (.ref h_input) g_synchronizing (.ref h_trace) g_errorParts g_errorCount (.ref h_tree_symbols) (.ref h_tree_parents) (.ref h_tree_heights) c_traceLength c_tree_count c_stack c_bringers c_depth c_index c_steps) ⟨rfl, rfl, Nat.le_of_ble_eq_true rfl, Nat.le_of_ble_eq_true rfl⟩ rfl 0 rfl [0, 9, 13, 14] rfl rfl rfl (Nat.le_of_ble_eq_true rfl) (fun o1 o2 o3 o4 o5 o6 o7 => [(h_, .inr (4, [.ref h_rules, g_sets, .ref h_table, .ref h_input, g_synchronizing, .ref h_trace, .int o1, .ref h_tree, g_errorParts, g_errorCount, .ref h_stack, .ref h_bringers, .int o5, .int o6, .int o7])), (h_rules, .inr (6, [.ref h_rules_codes, .int c_rules_count])), (h_rules_codes, .inl (tc.1, 24, .inl c_rules_codes)), (h_table, .inr (8, [.ref h_rules, g_table_sets, g_table_select, .ref h_table_possible, .ref h_table_lowest, g_table_conflicts])), (h_table_possible, .inl (tc.1, 72, .inl c_table_possible)), (h_table_lowest, .inl (tc.1, 72, .inl c_table_lowest)), (h_input, .inr (3, [.ref h_input_terminals, .int c_input_length])), (h_input_terminals, .inl (tc.1, 40, .inl c_input_terminals)), (h_trace, .inl (tc.1, 300, .inl c_trace)), (h_tree, .inr (9, [.ref h_tree_symbols, .ref h_tree_parents, .ref h_tree_heights, .int o2])), (h_tree_symbols, .inl (tc.1, 300, .inl c_tree_symbols)), (h_tree_parents, .inl (tc.1, 300, .inl c_tree_parents)), (h_tree_heights, .inl (tc.1, 300, .inl c_tree_heights)), (h_stack, .inl (tc.1, 65, .inl o3)), (h_bringers, .inl (tc.1, 65, .inl o4))]) [(true, 0), (false, 1), (false, 2), (false, 3), (false, 4), (false, 5), (false, 6), (false, 7), (false, 8), (true, 1), (false, 10), (false, 11), (false, 12), (true, 2), (true, 3)] (fun _ => rfl) (by decide +kernel) (fun o1 o2 o3 o4 o5 o6 o7 => ?_)
  refine j_const C d4_parseInput_4 ?_
  refine j_istore C d4_parseInput_5 (by decide) (lv' := [(1, .int 0), (0, .ref h_)]) rfl ?_
  refine j_join10 100 (fun v8 v9 v10 v11 v12 v13 v14 v15 v16 v17 => [(h_, .inr (4, [.ref h_rules, g_sets, .ref h_table, .ref h_input, g_synchronizing, .ref h_trace, .int v9, .ref h_tree, g_errorParts, g_errorCount, .ref h_stack, .ref h_bringers, .int v15, .int v16, .int v17])), (h_rules, .inr (6, [.ref h_rules_codes, .int c_rules_count])), (h_rules_codes, .inl (tc.1, 24, .inl c_rules_codes)), (h_table, .inr (8, [.ref h_rules, g_table_sets, g_table_select, .ref h_table_possible, .ref h_table_lowest, g_table_conflicts])), (h_table_possible, .inl (tc.1, 72, .inl c_table_possible)), (h_table_lowest, .inl (tc.1, 72, .inl c_table_lowest)), (h_input, .inr (3, [.ref h_input_terminals, .int c_input_length])), (h_input_terminals, .inl (tc.1, 40, .inl c_input_terminals)), (h_trace, .inl (tc.1, 300, .inl v8)), (h_tree, .inr (9, [.ref h_tree_symbols, .ref h_tree_parents, .ref h_tree_heights, .int o2])), (h_tree_symbols, .inl (tc.1, 300, .inl v10)), (h_tree_parents, .inl (tc.1, 300, .inl v11)), (h_tree_heights, .inl (tc.1, 300, .inl v12)), (h_stack, .inl (tc.1, 65, .inl v13)), (h_bringers, .inl (tc.1, 65, .inl v14))]) (fun v8 v9 v10 v11 v12 v13 v14 v15 v16 v17 => []) (fun v8 v9 v10 v11 v12 v13 v14 v15 v16 v17 => []) (fun v8 v9 v10 v11 v12 v13 v14 v15 v16 v17 => ?_) (fun k18 hk18 => ?_)
  · refine j_const C d4_parseInput_100 ?_
    exact j_iret C d4_parseInput_102 rfl
  · exact j_sub [1, 0] rfl (j_loop11 (fun v19 v20 v21 v22 v23 v24 v25 v26 v27 v28 v29 => [(h_, .inr (4, [.ref h_rules, g_sets, .ref h_table, .ref h_input, g_synchronizing, .ref h_trace, .int v21, .ref h_tree, g_errorParts, g_errorCount, .ref h_stack, .ref h_bringers, .int v27, .int v28, .int v29])), (h_rules, .inr (6, [.ref h_rules_codes, .int c_rules_count])), (h_rules_codes, .inl (tc.1, 24, .inl c_rules_codes)), (h_table, .inr (8, [.ref h_rules, g_table_sets, g_table_select, .ref h_table_possible, .ref h_table_lowest, g_table_conflicts])), (h_table_possible, .inl (tc.1, 72, .inl c_table_possible)), (h_table_lowest, .inl (tc.1, 72, .inl c_table_lowest)), (h_input, .inr (3, [.ref h_input_terminals, .int c_input_length])), (h_input_terminals, .inl (tc.1, 40, .inl c_input_terminals)), (h_trace, .inl (tc.1, 300, .inl v20)), (h_tree, .inr (9, [.ref h_tree_symbols, .ref h_tree_parents, .ref h_tree_heights, .int o2])), (h_tree_symbols, .inl (tc.1, 300, .inl v22)), (h_tree_parents, .inl (tc.1, 300, .inl v23)), (h_tree_heights, .inl (tc.1, 300, .inl v24)), (h_stack, .inl (tc.1, 65, .inl v25)), (h_bringers, .inl (tc.1, 65, .inl v26))]) (fun v19 v20 v21 v22 v23 v24 v25 v26 v27 v28 v29 => [(0, .ref h_), (1, .int v19)]) (fun rc30 hrc30 v19 v20 v21 v22 v23 v24 v25 v26 v27 v28 v29 => wX4_parseInput_6 C N h_ h_rules h_rules_codes h_table h_table_possible h_table_lowest h_input h_input_terminals h_trace h_tree h_tree_symbols h_tree_parents h_tree_heights h_stack h_bringers g_sets g_synchronizing g_errorParts g_errorCount g_table_sets g_table_select g_table_conflicts c_rules_codes c_rules_count c_table_possible c_table_lowest c_input_terminals c_input_length o2 k18 hk18 rc30 hrc30 v19 v20 v21 v22 v23 v24 v25 v26 v27 v28 v29) N _ _ _ _ _ _ _ _ _ _ _)

theorem d4_noteError_0 : jda cX4_noteError 0 0 1 := Or.inl ⟨0, by decide +kernel⟩
theorem d4_noteError_1 : jd cX4_noteError 1 (.getfield 85) 3 4 := by decide +kernel
theorem d4_noteError_4 : jdk cX4_noteError 4 300 7 := Or.inr (Or.inr ⟨300, by decide +kernel⟩)
theorem d4_noteError_7 : jdb cX4_noteError 7 (.if_icmp .ge 48) 48 55 10 := by decide +kernel
theorem d4_noteError_10 : jda cX4_noteError 10 0 11 := Or.inl ⟨0, by decide +kernel⟩
theorem d4_noteError_11 : jd cX4_noteError 11 (.getfield 85) 3 14 := by decide +kernel
theorem d4_noteError_14 : jdk cX4_noteError 14 3 15 := Or.inl ⟨3, by decide +kernel⟩
theorem d4_noteError_15 : jd cX4_noteError 15 (.imul) 1 16 := by decide +kernel
theorem d4_noteError_16 : jds cX4_noteError 16 3 17 := Or.inl ⟨3, by decide +kernel⟩
theorem d4_noteError_17 : jda cX4_noteError 17 0 18 := Or.inl ⟨0, by decide +kernel⟩
theorem d4_noteError_18 : jd cX4_noteError 18 (.getfield 25) 3 21 := by decide +kernel
theorem d4_noteError_21 : jdi cX4_noteError 21 3 22 := Or.inl ⟨3, by decide +kernel⟩
theorem d4_noteError_22 : jda cX4_noteError 22 0 23 := Or.inl ⟨0, by decide +kernel⟩
theorem d4_noteError_23 : jd cX4_noteError 23 (.getfield 93) 3 26 := by decide +kernel
theorem d4_noteError_26 : jd cX4_noteError 26 (.iastore) 1 27 := by decide +kernel
theorem d4_noteError_27 : jda cX4_noteError 27 0 28 := Or.inl ⟨0, by decide +kernel⟩
theorem d4_noteError_28 : jd cX4_noteError 28 (.getfield 25) 3 31 := by decide +kernel
theorem d4_noteError_31 : jdi cX4_noteError 31 3 32 := Or.inl ⟨3, by decide +kernel⟩
theorem d4_noteError_32 : jdk cX4_noteError 32 1 33 := Or.inl ⟨1, by decide +kernel⟩
theorem d4_noteError_33 : jd cX4_noteError 33 (.iadd) 1 34 := by decide +kernel
theorem d4_noteError_34 : jdi cX4_noteError 34 1 35 := Or.inl ⟨1, by decide +kernel⟩
theorem d4_noteError_35 : jd cX4_noteError 35 (.iastore) 1 36 := by decide +kernel
theorem d4_noteError_36 : jda cX4_noteError 36 0 37 := Or.inl ⟨0, by decide +kernel⟩
theorem d4_noteError_37 : jd cX4_noteError 37 (.getfield 25) 3 40 := by decide +kernel
theorem d4_noteError_40 : jdi cX4_noteError 40 3 41 := Or.inl ⟨3, by decide +kernel⟩
theorem d4_noteError_41 : jdk cX4_noteError 41 2 42 := Or.inl ⟨2, by decide +kernel⟩
theorem d4_noteError_42 : jd cX4_noteError 42 (.iadd) 1 43 := by decide +kernel
theorem d4_noteError_43 : jdi cX4_noteError 43 2 44 := Or.inl ⟨2, by decide +kernel⟩
theorem d4_noteError_44 : jd cX4_noteError 44 (.iastore) 1 45 := by decide +kernel
theorem d4_noteError_45 : jda cX4_noteError 45 0 46 := Or.inl ⟨0, by decide +kernel⟩
theorem d4_noteError_46 : jd cX4_noteError 46 (.dup) 1 47 := by decide +kernel
theorem d4_noteError_47 : jd cX4_noteError 47 (.getfield 85) 3 50 := by decide +kernel
theorem d4_noteError_50 : jdk cX4_noteError 50 1 51 := Or.inl ⟨1, by decide +kernel⟩
theorem d4_noteError_51 : jd cX4_noteError 51 (.iadd) 1 52 := by decide +kernel
theorem d4_noteError_52 : jd cX4_noteError 52 (.putfield 85) 3 55 := by decide +kernel
theorem d4_noteError_55 : decode cX4_noteError 55 = .ok (.return_, 1) := by decide +kernel
set_option maxHeartbeats 4000000 in
set_option maxRecDepth 100000 in
theorem kX4_noteError (l : Launch) (D : va_G) (tc : jTC) (h_ h_errorParts : Nat) (g_rules g_sets g_table g_input g_synchronizing g_trace g_traceLength g_tree g_stack g_bringers g_depth g_steps : Value) (c_errorParts : (Nat → Int32)) (c_errorCount : Int32) (c_index : Int32) (p1 : Int32) (p2 : Int32) : ctV l D tc yX4_noteError (Cond.code yX4_noteError cX4_noteError 4 none :: jtb) ({ frames := 0, cells := 0, slots := 0, locals := 0 } : Room) [.ref h_, .int p1, .int p2] [(h_, .inr (4, [g_rules, g_sets, g_table, g_input, g_synchronizing, g_trace, g_traceLength, g_tree, .ref h_errorParts, .int c_errorCount, g_stack, g_bringers, g_depth, .int c_index, g_steps])), (h_errorParts, .inl (tc.1, 900, .inl c_errorParts))] (fX4_noteError c_errorParts c_errorCount c_index p1 p2) (fun (u : (Nat → Int32) × Int32) => [(h_, .inr (4, [g_rules, g_sets, g_table, g_input, g_synchronizing, g_trace, g_traceLength, g_tree, .ref h_errorParts, .int u.2, g_stack, g_bringers, g_depth, .int c_index, g_steps])), (h_errorParts, .inl (tc.1, 900, .inl u.1))]) := by
  refine ctV_of (lv0 := [(0, .ref h_), (1, .int p1), (2, .int p2)]) (by decide +kernel) (Nat.le_of_ble_eq_true rfl) rfl (fun X C => ?_)
  unfold fX4_noteError
  refine j_aload C d4_noteError_0 0 rfl ?_
  refine j_get C d4_noteError_1 fl4_85 0 rfl rfl ?_
  refine j_const C d4_noteError_4 ?_
  refine j_join2 55 (fun v1 v2 => [(h_, .inr (4, [g_rules, g_sets, g_table, g_input, g_synchronizing, g_trace, g_traceLength, g_tree, .ref h_errorParts, .int v2, g_stack, g_bringers, g_depth, .int c_index, g_steps])), (h_errorParts, .inl (tc.1, 900, .inl v1))]) (fun v1 v2 => []) (fun v1 v2 => []) (fun v1 v2 => ?_) (fun k3 hk3 => ?_)
  · exact j_vret C d4_noteError_55 rfl
  · refine j_icmp_ge C d4_noteError_7 ?_ ?_
    · exact j_sub [] rfl (hk3 _ _)
    · refine j_aload C d4_noteError_10 0 rfl ?_
      refine j_get C d4_noteError_11 fl4_85 0 rfl rfl ?_
      refine j_const C d4_noteError_14 ?_
      refine j_imul C d4_noteError_15 ?_
      refine j_leti (fun x4 => ?_)
      refine j_istore C d4_noteError_16 (by decide) (lv' := [(3, .int x4), (0, .ref h_), (1, .int p1), (2, .int p2)]) rfl ?_
      refine j_aload C d4_noteError_17 1 rfl ?_
      refine j_get C d4_noteError_18 fl4_25 0 rfl rfl ?_
      refine j_iload C d4_noteError_21 0 rfl ?_
      refine j_aload C d4_noteError_22 1 rfl ?_
      refine j_get C d4_noteError_23 fl4_93 0 rfl rfl ?_
      refine j_iast C (fun f5 => [(h_, .inr (4, [g_rules, g_sets, g_table, g_input, g_synchronizing, g_trace, g_traceLength, g_tree, .ref h_errorParts, .int c_errorCount, g_stack, g_bringers, g_depth, .int c_index, g_steps])), (h_errorParts, .inl (tc.1, 900, .inl f5))]) d4_noteError_26 1 rfl (fun _ => rfl) (fun f5 => ?_)
      refine j_aload C d4_noteError_27 1 rfl ?_
      refine j_get C d4_noteError_28 fl4_25 0 rfl rfl ?_
      refine j_iload C d4_noteError_31 0 rfl ?_
      refine j_const C d4_noteError_32 ?_
      refine j_iadd C d4_noteError_33 ?_
      refine j_iload C d4_noteError_34 2 rfl ?_
      refine j_iast C (fun f6 => [(h_, .inr (4, [g_rules, g_sets, g_table, g_input, g_synchronizing, g_trace, g_traceLength, g_tree, .ref h_errorParts, .int c_errorCount, g_stack, g_bringers, g_depth, .int c_index, g_steps])), (h_errorParts, .inl (tc.1, 900, .inl f6))]) d4_noteError_35 1 rfl (fun _ => rfl) (fun f6 => ?_)
      refine j_aload C d4_noteError_36 1 rfl ?_
      refine j_get C d4_noteError_37 fl4_25 0 rfl rfl ?_
      refine j_iload C d4_noteError_40 0 rfl ?_
      refine j_const C d4_noteError_41 ?_
      refine j_iadd C d4_noteError_42 ?_
      refine j_iload C d4_noteError_43 3 rfl ?_
      refine j_iast C (fun f7 => [(h_, .inr (4, [g_rules, g_sets, g_table, g_input, g_synchronizing, g_trace, g_traceLength, g_tree, .ref h_errorParts, .int c_errorCount, g_stack, g_bringers, g_depth, .int c_index, g_steps])), (h_errorParts, .inl (tc.1, 900, .inl f7))]) d4_noteError_44 1 rfl (fun _ => rfl) (fun f7 => ?_)
      refine j_aload C d4_noteError_45 1 rfl ?_
      refine j_dup C d4_noteError_46 rfl ?_
      refine j_get C d4_noteError_47 fl4_85 0 rfl rfl ?_
      refine j_const C d4_noteError_50 ?_
      refine j_iadd C d4_noteError_51 ?_
      refine j_leti (fun x8 => ?_)
      refine j_putq C d4_noteError_52 fq4_85 0 rfl rfl rfl (Nat.le_of_ble_eq_true rfl) (ws' := [(h_, .inr (4, [g_rules, g_sets, g_table, g_input, g_synchronizing, g_trace, g_traceLength, g_tree, .ref h_errorParts, .int x8, g_stack, g_bringers, g_depth, .int c_index, g_steps])), (h_errorParts, .inl (tc.1, 900, .inl f7))]) rfl ?_
      exact j_sub [] rfl (hk3 _ _)

theorem d11_bit_0 : jdi cX11_bit 0 0 1 := Or.inl ⟨0, by decide +kernel⟩
theorem d11_bit_1 : jdi cX11_bit 1 1 2 := Or.inl ⟨1, by decide +kernel⟩
theorem d11_bit_2 : jd cX11_bit 2 (.ishr) 1 3 := by decide +kernel
theorem d11_bit_3 : jdk cX11_bit 3 1 4 := Or.inl ⟨1, by decide +kernel⟩
theorem d11_bit_4 : jd cX11_bit 4 (.iand) 1 5 := by decide +kernel
theorem d11_bit_5 : decode cX11_bit 5 = .ok (.ireturn, 1) := by decide +kernel
set_option maxHeartbeats 4000000 in
set_option maxRecDepth 100000 in
theorem kX11_bit (l : Launch) (D : va_G) (tc : jTC) (p0 : Int32) (p1 : Int32) : ctI0 l D tc yX11_bit (Cond.code yX11_bit cX11_bit 2 (some .int) :: jtb) ({ frames := 0, cells := 0, slots := 0, locals := 0 } : Room) [.int p0, .int p1] [] (fX11_bit p0 p1) := by
  refine ctI0_of (lv0 := [(0, .int p0), (1, .int p1)]) (by decide +kernel) (Nat.le_of_ble_eq_true rfl) rfl (fun X C => ?_)
  unfold fX11_bit
  refine j_iload C d11_bit_0 0 rfl ?_
  refine j_iload C d11_bit_1 1 rfl ?_
  refine j_ishr C d11_bit_2 ?_
  refine j_const C d11_bit_3 ?_
  refine j_iand C d11_bit_4 ?_
  exact j_iret0 C d11_bit_5

theorem d4_mayLeave_0 : jda cX4_mayLeave 0 0 1 := Or.inl ⟨0, by decide +kernel⟩
theorem d4_mayLeave_1 : jd cX4_mayLeave 1 (.getfield 38) 3 4 := by decide +kernel
theorem d4_mayLeave_4 : jd cX4_mayLeave 4 (.getfield 163) 3 7 := by decide +kernel
theorem d4_mayLeave_7 : jdi cX4_mayLeave 7 1 8 := Or.inl ⟨1, by decide +kernel⟩
theorem d4_mayLeave_8 : jd cX4_mayLeave 8 (.iaload) 1 9 := by decide +kernel
theorem d4_mayLeave_9 : jda cX4_mayLeave 9 0 10 := Or.inl ⟨0, by decide +kernel⟩
theorem d4_mayLeave_10 : jd cX4_mayLeave 10 (.getfield 9) 3 13 := by decide +kernel
theorem d4_mayLeave_13 : jdi cX4_mayLeave 13 1 14 := Or.inl ⟨1, by decide +kernel⟩
theorem d4_mayLeave_14 : jd cX4_mayLeave 14 (.iaload) 1 15 := by decide +kernel
theorem d4_mayLeave_15 : jd cX4_mayLeave 15 (.ior) 1 16 := by decide +kernel
theorem d4_mayLeave_16 : jdk cX4_mayLeave 16 256 19 := Or.inr (Or.inr ⟨256, by decide +kernel⟩)
theorem d4_mayLeave_19 : jd cX4_mayLeave 19 (.ior) 1 20 := by decide +kernel
theorem d4_mayLeave_20 : jds cX4_mayLeave 20 2 21 := Or.inl ⟨2, by decide +kernel⟩
theorem d4_mayLeave_21 : jdi cX4_mayLeave 21 2 22 := Or.inl ⟨2, by decide +kernel⟩
theorem d4_mayLeave_22 : jda cX4_mayLeave 22 0 23 := Or.inl ⟨0, by decide +kernel⟩
theorem d4_mayLeave_23 : jd cX4_mayLeave 23 (.invokevirtual 134) 3 26 := by decide +kernel
theorem d4_mayLeave_26 : jd cX4_mayLeave 26 (.invokestatic 168) 3 29 := by decide +kernel
theorem d4_mayLeave_29 : jdk cX4_mayLeave 29 1 30 := Or.inl ⟨1, by decide +kernel⟩
theorem d4_mayLeave_30 : jdb cX4_mayLeave 30 (.if_icmp .ne 7) 7 37 33 := by decide +kernel
theorem d4_mayLeave_33 : jdk cX4_mayLeave 33 1 34 := Or.inl ⟨1, by decide +kernel⟩
theorem d4_mayLeave_34 : jdb cX4_mayLeave 34 (.goto 4) 4 38 37 := by decide +kernel
theorem d4_mayLeave_37 : jdk cX4_mayLeave 37 0 38 := Or.inl ⟨0, by decide +kernel⟩
theorem d4_mayLeave_38 : decode cX4_mayLeave 38 = .ok (.ireturn, 1) := by decide +kernel
set_option maxHeartbeats 4000000 in
set_option maxRecDepth 100000 in
theorem kX4_mayLeave (l : Launch) (D : va_G) (tc : jTC) (h_ h_sets h_sets_follow h_input h_input_terminals h_synchronizing : Nat) (g_rules g_table g_trace g_traceLength g_tree g_errorParts g_errorCount g_stack g_bringers g_depth g_steps g_sets_nullable g_sets_first g_sets_begins : Value) (c_sets_follow : (Nat → Int32)) (c_input_terminals : (Nat → Int32)) (c_input_length : Int32) (c_synchronizing : (Nat → Int32)) (c_index : Int32) (p1 : Int32) : ctI0 l D tc yX4_mayLeave (Cond.code yX4_mayLeave cX4_mayLeave 3 (some .boolean) :: jtb) ({ frames := 2, cells := 0, slots := 0, locals := 41 } : Room) [.ref h_, .int p1] [(h_, .inr (4, [g_rules, .ref h_sets, g_table, .ref h_input, .ref h_synchronizing, g_trace, g_traceLength, g_tree, g_errorParts, g_errorCount, g_stack, g_bringers, g_depth, .int c_index, g_steps])), (h_sets, .inr (7, [g_sets_nullable, g_sets_first, .ref h_sets_follow, g_sets_begins])), (h_sets_follow, .inl (tc.1, 8, .inl c_sets_follow)), (h_input, .inr (3, [.ref h_input_terminals, .int c_input_length])), (h_input_terminals, .inl (tc.1, 40, .inl c_input_terminals)), (h_synchronizing, .inl (tc.1, 8, .inl c_synchronizing))] (fX4_mayLeave c_sets_follow c_input_terminals c_input_length c_synchronizing c_index p1) := by
  refine ctI0_of (lv0 := [(0, .ref h_), (1, .int p1)]) (by decide +kernel) (Nat.le_of_ble_eq_true rfl) rfl (fun X C => ?_)
  unfold fX4_mayLeave
  refine j_aload C d4_mayLeave_0 0 rfl ?_
  refine j_get C d4_mayLeave_1 fl4_38 0 rfl rfl ?_
  refine j_get C d4_mayLeave_4 fl4_163 1 rfl rfl ?_
  refine j_iload C d4_mayLeave_7 1 rfl ?_
  refine j_iald C d4_mayLeave_8 2 rfl (fun x1 => ?_)
  refine j_aload C d4_mayLeave_9 0 rfl ?_
  refine j_get C d4_mayLeave_10 fl4_9 0 rfl rfl ?_
  refine j_iload C d4_mayLeave_13 1 rfl ?_
  refine j_iald C d4_mayLeave_14 5 rfl (fun x2 => ?_)
  refine j_ior C d4_mayLeave_15 ?_
  refine j_const C d4_mayLeave_16 ?_
  refine j_ior C d4_mayLeave_19 ?_
  refine j_leti (fun x3 => ?_)
  refine j_istore C d4_mayLeave_20 (by decide) (lv' := [(2, .int x3), (0, .ref h_), (1, .int p1)]) rfl ?_
  refine j_iload C d4_mayLeave_21 0 rfl ?_
  refine j_aload C d4_mayLeave_22 1 rfl ?_
  refine j_callVI0 (As := []) C d4_mayLeave_23 mv4_134 (kX4_token _ _ tc h_ h_input h_input_terminals g_rules (.ref h_sets) g_table (.ref h_synchronizing) g_trace g_traceLength g_tree g_errorParts g_errorCount g_stack g_bringers g_depth g_steps c_input_terminals c_input_length c_index) ⟨rfl, rfl, Nat.le_of_ble_eq_true rfl, Nat.le_of_ble_eq_true rfl⟩ rfl 0 rfl [0, 3, 4] rfl rfl rfl (Nat.le_of_ble_eq_true rfl) (fun x4 => ?_)
  refine j_callNI0 (As := [.int x3, .int x4]) C d4_mayLeave_26 mn4_168 (kX11_bit _ _ tc x3 x4) ⟨rfl, rfl, Nat.le_of_ble_eq_true rfl, Nat.le_of_ble_eq_true rfl⟩ rfl [] rfl rfl rfl (Nat.le_of_ble_eq_true rfl) (fun x5 => ?_)
  refine j_const C d4_mayLeave_29 ?_
  refine j_join 38 (fun v6 => [(h_, .inr (4, [g_rules, .ref h_sets, g_table, .ref h_input, .ref h_synchronizing, g_trace, g_traceLength, g_tree, g_errorParts, g_errorCount, g_stack, g_bringers, g_depth, .int c_index, g_steps])), (h_sets, .inr (7, [g_sets_nullable, g_sets_first, .ref h_sets_follow, g_sets_begins])), (h_sets_follow, .inl (tc.1, 8, .inl c_sets_follow)), (h_input, .inr (3, [.ref h_input_terminals, .int c_input_length])), (h_input_terminals, .inl (tc.1, 40, .inl c_input_terminals)), (h_synchronizing, .inl (tc.1, 8, .inl c_synchronizing))]) (fun v6 => []) (fun v6 => [.int v6]) (fun v6 => ?_) (fun k7 hk7 => ?_)
  · refine j_gz (fun hz => ?_)
    exact j_zret0 C hz d4_mayLeave_38
  · refine j_icmp_ne C d4_mayLeave_30 ?_ ?_
    · refine j_const C d4_mayLeave_37 ?_
      exact j_sub [] rfl (hk7 _)
    · refine j_const C d4_mayLeave_33 ?_
      refine j_goto C d4_mayLeave_34 ?_
      exact j_sub [] rfl (hk7 _)

theorem d4_passError_0 : jda cX4_passError 0 0 1 := Or.inl ⟨0, by decide +kernel⟩
theorem d4_passError_1 : jd cX4_passError 1 (.invokevirtual 68) 3 4 := by decide +kernel
theorem d4_passError_4 : jds cX4_passError 4 1 5 := Or.inl ⟨1, by decide +kernel⟩
theorem d4_passError_5 : jdi cX4_passError 5 1 6 := Or.inl ⟨1, by decide +kernel⟩
theorem d4_passError_6 : jdk cX4_passError 6 (-1) 7 := Or.inl ⟨(-1), by decide +kernel⟩
theorem d4_passError_7 : jdb cX4_passError 7 (.if_icmp .ne 23) 23 30 10 := by decide +kernel
theorem d4_passError_10 : jda cX4_passError 10 0 11 := Or.inl ⟨0, by decide +kernel⟩
theorem d4_passError_11 : jdk cX4_passError 11 3 12 := Or.inl ⟨3, by decide +kernel⟩
theorem d4_passError_12 : jdi cX4_passError 12 1 13 := Or.inl ⟨1, by decide +kernel⟩
theorem d4_passError_13 : jd cX4_passError 13 (.invokevirtual 157) 3 16 := by decide +kernel
theorem d4_passError_16 : jda cX4_passError 16 0 17 := Or.inl ⟨0, by decide +kernel⟩
theorem d4_passError_17 : jda cX4_passError 17 0 18 := Or.inl ⟨0, by decide +kernel⟩
theorem d4_passError_18 : jd cX4_passError 18 (.getfield 46) 3 21 := by decide +kernel
theorem d4_passError_21 : jd cX4_passError 21 (.getfield 102) 3 24 := by decide +kernel
theorem d4_passError_24 : jd cX4_passError 24 (.putfield 93) 3 27 := by decide +kernel
theorem d4_passError_27 : jdb cX4_passError 27 (.goto 74) 74 101 30 := by decide +kernel
theorem d4_passError_30 : jdi cX4_passError 30 1 31 := Or.inl ⟨1, by decide +kernel⟩
theorem d4_passError_31 : jdk cX4_passError 31 10 33 := Or.inr (Or.inl ⟨10, by decide +kernel⟩)
theorem d4_passError_33 : jdb cX4_passError 33 (.if_icmp .ge 22) 22 55 36 := by decide +kernel
theorem d4_passError_36 : jda cX4_passError 36 0 37 := Or.inl ⟨0, by decide +kernel⟩
theorem d4_passError_37 : jdk cX4_passError 37 0 38 := Or.inl ⟨0, by decide +kernel⟩
theorem d4_passError_38 : jdi cX4_passError 38 1 39 := Or.inl ⟨1, by decide +kernel⟩
theorem d4_passError_39 : jd cX4_passError 39 (.invokevirtual 157) 3 42 := by decide +kernel
theorem d4_passError_42 : jda cX4_passError 42 0 43 := Or.inl ⟨0, by decide +kernel⟩
theorem d4_passError_43 : jd cX4_passError 43 (.dup) 1 44 := by decide +kernel
theorem d4_passError_44 : jd cX4_passError 44 (.getfield 82) 3 47 := by decide +kernel
theorem d4_passError_47 : jdk cX4_passError 47 1 48 := Or.inl ⟨1, by decide +kernel⟩
theorem d4_passError_48 : jd cX4_passError 48 (.isub) 1 49 := by decide +kernel
theorem d4_passError_49 : jd cX4_passError 49 (.putfield 82) 3 52 := by decide +kernel
theorem d4_passError_52 : jdb cX4_passError 52 (.goto 49) 49 101 55 := by decide +kernel
theorem d4_passError_55 : jda cX4_passError 55 0 56 := Or.inl ⟨0, by decide +kernel⟩
theorem d4_passError_56 : jdi cX4_passError 56 1 57 := Or.inl ⟨1, by decide +kernel⟩
theorem d4_passError_57 : jdk cX4_passError 57 10 59 := Or.inr (Or.inl ⟨10, by decide +kernel⟩)
theorem d4_passError_59 : jd cX4_passError 59 (.isub) 1 60 := by decide +kernel
theorem d4_passError_60 : jd cX4_passError 60 (.invokevirtual 160) 3 63 := by decide +kernel
theorem d4_passError_63 : jdb cX4_passError 63 (.ifCond .eq 22) 22 85 66 := by decide +kernel
theorem d4_passError_66 : jda cX4_passError 66 0 67 := Or.inl ⟨0, by decide +kernel⟩
theorem d4_passError_67 : jdk cX4_passError 67 1 68 := Or.inl ⟨1, by decide +kernel⟩
theorem d4_passError_68 : jdi cX4_passError 68 1 69 := Or.inl ⟨1, by decide +kernel⟩
theorem d4_passError_69 : jd cX4_passError 69 (.invokevirtual 157) 3 72 := by decide +kernel
theorem d4_passError_72 : jda cX4_passError 72 0 73 := Or.inl ⟨0, by decide +kernel⟩
theorem d4_passError_73 : jd cX4_passError 73 (.dup) 1 74 := by decide +kernel
theorem d4_passError_74 : jd cX4_passError 74 (.getfield 82) 3 77 := by decide +kernel
theorem d4_passError_77 : jdk cX4_passError 77 1 78 := Or.inl ⟨1, by decide +kernel⟩
theorem d4_passError_78 : jd cX4_passError 78 (.isub) 1 79 := by decide +kernel
theorem d4_passError_79 : jd cX4_passError 79 (.putfield 82) 3 82 := by decide +kernel
theorem d4_passError_82 : jdb cX4_passError 82 (.goto 19) 19 101 85 := by decide +kernel
theorem d4_passError_85 : jda cX4_passError 85 0 86 := Or.inl ⟨0, by decide +kernel⟩
theorem d4_passError_86 : jdk cX4_passError 86 2 87 := Or.inl ⟨2, by decide +kernel⟩
theorem d4_passError_87 : jdi cX4_passError 87 1 88 := Or.inl ⟨1, by decide +kernel⟩
theorem d4_passError_88 : jd cX4_passError 88 (.invokevirtual 157) 3 91 := by decide +kernel
theorem d4_passError_91 : jda cX4_passError 91 0 92 := Or.inl ⟨0, by decide +kernel⟩
theorem d4_passError_92 : jd cX4_passError 92 (.dup) 1 93 := by decide +kernel
theorem d4_passError_93 : jd cX4_passError 93 (.getfield 93) 3 96 := by decide +kernel
theorem d4_passError_96 : jdk cX4_passError 96 1 97 := Or.inl ⟨1, by decide +kernel⟩
theorem d4_passError_97 : jd cX4_passError 97 (.iadd) 1 98 := by decide +kernel
theorem d4_passError_98 : jd cX4_passError 98 (.putfield 93) 3 101 := by decide +kernel
theorem d4_passError_101 : jda cX4_passError 101 0 102 := Or.inl ⟨0, by decide +kernel⟩
theorem d4_passError_102 : jd cX4_passError 102 (.dup) 1 103 := by decide +kernel
theorem d4_passError_103 : jd cX4_passError 103 (.getfield 57) 3 106 := by decide +kernel
theorem d4_passError_106 : jdk cX4_passError 106 1 107 := Or.inl ⟨1, by decide +kernel⟩
theorem d4_passError_107 : jd cX4_passError 107 (.iadd) 1 108 := by decide +kernel
theorem d4_passError_108 : jd cX4_passError 108 (.putfield 57) 3 111 := by decide +kernel
theorem d4_passError_111 : decode cX4_passError 111 = .ok (.return_, 1) := by decide +kernel
set_option maxHeartbeats 4000000 in
set_option maxRecDepth 100000 in
theorem kX4_passError (l : Launch) (D : va_G) (tc : jTC) (h_ h_sets h_sets_follow h_input h_input_terminals h_synchronizing h_errorParts h_stack : Nat) (g_rules g_table g_trace g_traceLength g_tree g_bringers g_sets_nullable g_sets_first g_sets_begins : Value) (c_sets_follow : (Nat → Int32)) (c_input_terminals : (Nat → Int32)) (c_input_length : Int32) (c_synchronizing : (Nat → Int32)) (c_errorParts : (Nat → Int32)) (c_errorCount : Int32) (c_stack : (Nat → Int32)) (c_depth : Int32) (c_index : Int32) (c_steps : Int32) : ctV l D tc yX4_passError (Cond.code yX4_passError cX4_passError 2 none :: jtb) ({ frames := 3, cells := 0, slots := 0, locals := 63 } : Room) [.ref h_] [(h_, .inr (4, [g_rules, .ref h_sets, g_table, .ref h_input, .ref h_synchronizing, g_trace, g_traceLength, g_tree, .ref h_errorParts, .int c_errorCount, .ref h_stack, g_bringers, .int c_depth, .int c_index, .int c_steps])), (h_sets, .inr (7, [g_sets_nullable, g_sets_first, .ref h_sets_follow, g_sets_begins])), (h_sets_follow, .inl (tc.1, 8, .inl c_sets_follow)), (h_input, .inr (3, [.ref h_input_terminals, .int c_input_length])), (h_input_terminals, .inl (tc.1, 40, .inl c_input_terminals)), (h_synchronizing, .inl (tc.1, 8, .inl c_synchronizing)), (h_errorParts, .inl (tc.1, 900, .inl c_errorParts)), (h_stack, .inl (tc.1, 65, .inl c_stack))] (fX4_passError c_sets_follow c_input_terminals c_input_length c_synchronizing c_errorParts c_errorCount c_stack c_depth c_index c_steps) (fun (u : (Nat → Int32) × Int32 × Int32 × Int32 × Int32) => [(h_, .inr (4, [g_rules, .ref h_sets, g_table, .ref h_input, .ref h_synchronizing, g_trace, g_traceLength, g_tree, .ref h_errorParts, .int u.2.1, .ref h_stack, g_bringers, .int u.2.2.1, .int u.2.2.2.1, .int u.2.2.2.2])), (h_sets, .inr (7, [g_sets_nullable, g_sets_first, .ref h_sets_follow, g_sets_begins])), (h_sets_follow, .inl (tc.1, 8, .inl c_sets_follow)), (h_input, .inr (3, [.ref h_input_terminals, .int c_input_length])), (h_input_terminals, .inl (tc.1, 40, .inl c_input_terminals)), (h_synchronizing, .inl (tc.1, 8, .inl c_synchronizing)), (h_errorParts, .inl (tc.1, 900, .inl u.1)), (h_stack, .inl (tc.1, 65, .inl c_stack))]) := by
  refine ctV_of (lv0 := [(0, .ref h_)]) (by decide +kernel) (Nat.le_of_ble_eq_true rfl) rfl (fun X C => ?_)
  unfold fX4_passError
  refine j_aload C d4_passError_0 0 rfl ?_
  refine j_callVI0 (As := []) C d4_passError_1 mv4_68 (kX4_top _ _ tc h_ h_stack g_rules (.ref h_sets) g_table (.ref h_input) (.ref h_synchronizing) g_trace g_traceLength g_tree (.ref h_errorParts) (.int c_errorCount) g_bringers (.int c_index) (.int c_steps) c_stack c_depth) ⟨rfl, rfl, Nat.le_of_ble_eq_true rfl, Nat.le_of_ble_eq_true rfl⟩ rfl 0 rfl [0, 7] rfl rfl rfl (Nat.le_of_ble_eq_true rfl) (fun x1 => ?_)
  refine j_istore C d4_passError_4 (by decide) (lv' := [(1, .int x1), (0, .ref h_)]) rfl ?_
  refine j_iload C d4_passError_5 0 rfl ?_
  refine j_const C d4_passError_6 ?_
  refine j_join4 101 (fun v2 v3 v4 v5 => [(h_, .inr (4, [g_rules, .ref h_sets, g_table, .ref h_input, .ref h_synchronizing, g_trace, g_traceLength, g_tree, .ref h_errorParts, .int v3, .ref h_stack, g_bringers, .int v4, .int v5, .int c_steps])), (h_sets, .inr (7, [g_sets_nullable, g_sets_first, .ref h_sets_follow, g_sets_begins])), (h_sets_follow, .inl (tc.1, 8, .inl c_sets_follow)), (h_input, .inr (3, [.ref h_input_terminals, .int c_input_length])), (h_input_terminals, .inl (tc.1, 40, .inl c_input_terminals)), (h_synchronizing, .inl (tc.1, 8, .inl c_synchronizing)), (h_errorParts, .inl (tc.1, 900, .inl v2)), (h_stack, .inl (tc.1, 65, .inl c_stack))]) (fun v2 v3 v4 v5 => [(0, .ref h_)]) (fun v2 v3 v4 v5 => []) (fun v2 v3 v4 v5 => ?_) (fun k7 hk7 => ?_)
  · refine j_aload C d4_passError_101 0 rfl ?_
    refine j_dup C d4_passError_102 rfl ?_
    refine j_get C d4_passError_103 fl4_57 0 rfl rfl ?_
    refine j_const C d4_passError_106 ?_
    refine j_iadd C d4_passError_107 ?_
    refine j_leti (fun x6 => ?_)
    refine j_putq C d4_passError_108 fq4_57 0 rfl rfl rfl (Nat.le_of_ble_eq_true rfl) (ws' := [(h_, .inr (4, [g_rules, .ref h_sets, g_table, .ref h_input, .ref h_synchronizing, g_trace, g_traceLength, g_tree, .ref h_errorParts, .int v3, .ref h_stack, g_bringers, .int v4, .int v5, .int x6])), (h_sets, .inr (7, [g_sets_nullable, g_sets_first, .ref h_sets_follow, g_sets_begins])), (h_sets_follow, .inl (tc.1, 8, .inl c_sets_follow)), (h_input, .inr (3, [.ref h_input_terminals, .int c_input_length])), (h_input_terminals, .inl (tc.1, 40, .inl c_input_terminals)), (h_synchronizing, .inl (tc.1, 8, .inl c_synchronizing)), (h_errorParts, .inl (tc.1, 900, .inl v2)), (h_stack, .inl (tc.1, 65, .inl c_stack))]) rfl ?_
    exact j_vret C d4_passError_111 rfl
  · refine j_icmp_ne C d4_passError_7 ?_ ?_
    · refine j_iload C d4_passError_30 0 rfl ?_
      refine j_const C d4_passError_31 ?_
      refine j_icmp_ge C d4_passError_33 ?_ ?_
      · refine j_aload C d4_passError_55 1 rfl ?_
        refine j_iload C d4_passError_56 0 rfl ?_
        refine j_const C d4_passError_57 ?_
        refine j_isub C d4_passError_59 ?_
        refine j_callVI0 (As := [.int (x1 - (10 : Int32))]) C d4_passError_60 mv4_160 (kX4_mayLeave _ _ tc h_ h_sets h_sets_follow h_input h_input_terminals h_synchronizing g_rules g_table g_trace g_traceLength g_tree (.ref h_errorParts) (.int c_errorCount) (.ref h_stack) g_bringers (.int c_depth) (.int c_steps) g_sets_nullable g_sets_first g_sets_begins c_sets_follow c_input_terminals c_input_length c_synchronizing c_index (x1 - (10 : Int32))) ⟨rfl, rfl, Nat.le_of_ble_eq_true rfl, Nat.le_of_ble_eq_true rfl⟩ rfl 0 rfl [0, 1, 2, 3, 4, 5] rfl rfl rfl (Nat.le_of_ble_eq_true rfl) (fun x8 => ?_)
        refine j_if_eq C d4_passError_63 ?_ ?_
        · refine j_aload C d4_passError_85 1 rfl ?_
          refine j_const C d4_passError_86 ?_
          refine j_iload C d4_passError_87 0 rfl ?_
          refine j_callVV2 (As := [.int 2, .int x1]) C d4_passError_88 mv4_157 (kX4_noteError _ _ tc h_ h_errorParts g_rules (.ref h_sets) g_table (.ref h_input) (.ref h_synchronizing) g_trace g_traceLength g_tree (.ref h_stack) g_bringers (.int c_depth) (.int c_steps) c_errorParts c_errorCount c_index 2 x1) ⟨rfl, rfl, Nat.le_of_ble_eq_true rfl, Nat.le_of_ble_eq_true rfl⟩ rfl 0 rfl [0, 6] rfl rfl rfl (Nat.le_of_ble_eq_true rfl) (fun o9 o10 => [(h_, .inr (4, [g_rules, .ref h_sets, g_table, .ref h_input, .ref h_synchronizing, g_trace, g_traceLength, g_tree, .ref h_errorParts, .int o10, .ref h_stack, g_bringers, .int c_depth, .int c_index, .int c_steps])), (h_sets, .inr (7, [g_sets_nullable, g_sets_first, .ref h_sets_follow, g_sets_begins])), (h_sets_follow, .inl (tc.1, 8, .inl c_sets_follow)), (h_input, .inr (3, [.ref h_input_terminals, .int c_input_length])), (h_input_terminals, .inl (tc.1, 40, .inl c_input_terminals)), (h_synchronizing, .inl (tc.1, 8, .inl c_synchronizing)), (h_errorParts, .inl (tc.1, 900, .inl o9)), (h_stack, .inl (tc.1, 65, .inl c_stack))]) [(true, 0), (false, 1), (false, 2), (false, 3), (false, 4), (false, 5), (true, 1), (false, 7)] (fun _ => rfl) (by decide +kernel) (fun o9 o10 => ?_)
          refine j_aload C d4_passError_91 1 rfl ?_
          refine j_dup C d4_passError_92 rfl ?_
          refine j_get C d4_passError_93 fl4_93 0 rfl rfl ?_
          refine j_const C d4_passError_96 ?_
          refine j_iadd C d4_passError_97 ?_
          refine j_leti (fun x11 => ?_)
          refine j_putq C d4_passError_98 fq4_93 0 rfl rfl rfl (Nat.le_of_ble_eq_true rfl) (ws' := [(h_, .inr (4, [g_rules, .ref h_sets, g_table, .ref h_input, .ref h_synchronizing, g_trace, g_traceLength, g_tree, .ref h_errorParts, .int o10, .ref h_stack, g_bringers, .int c_depth, .int x11, .int c_steps])), (h_sets, .inr (7, [g_sets_nullable, g_sets_first, .ref h_sets_follow, g_sets_begins])), (h_sets_follow, .inl (tc.1, 8, .inl c_sets_follow)), (h_input, .inr (3, [.ref h_input_terminals, .int c_input_length])), (h_input_terminals, .inl (tc.1, 40, .inl c_input_terminals)), (h_synchronizing, .inl (tc.1, 8, .inl c_synchronizing)), (h_errorParts, .inl (tc.1, 900, .inl o9)), (h_stack, .inl (tc.1, 65, .inl c_stack))]) rfl ?_
          exact j_sub [1] rfl (hk7 _ _ _ _)
        · refine j_aload C d4_passError_66 1 rfl ?_
          refine j_const C d4_passError_67 ?_
          refine j_iload C d4_passError_68 0 rfl ?_
          refine j_callVV2 (As := [.int 1, .int x1]) C d4_passError_69 mv4_157 (kX4_noteError _ _ tc h_ h_errorParts g_rules (.ref h_sets) g_table (.ref h_input) (.ref h_synchronizing) g_trace g_traceLength g_tree (.ref h_stack) g_bringers (.int c_depth) (.int c_steps) c_errorParts c_errorCount c_index 1 x1) ⟨rfl, rfl, Nat.le_of_ble_eq_true rfl, Nat.le_of_ble_eq_true rfl⟩ rfl 0 rfl [0, 6] rfl rfl rfl (Nat.le_of_ble_eq_true rfl) (fun o12 o13 => [(h_, .inr (4, [g_rules, .ref h_sets, g_table, .ref h_input, .ref h_synchronizing, g_trace, g_traceLength, g_tree, .ref h_errorParts, .int o13, .ref h_stack, g_bringers, .int c_depth, .int c_index, .int c_steps])), (h_sets, .inr (7, [g_sets_nullable, g_sets_first, .ref h_sets_follow, g_sets_begins])), (h_sets_follow, .inl (tc.1, 8, .inl c_sets_follow)), (h_input, .inr (3, [.ref h_input_terminals, .int c_input_length])), (h_input_terminals, .inl (tc.1, 40, .inl c_input_terminals)), (h_synchronizing, .inl (tc.1, 8, .inl c_synchronizing)), (h_errorParts, .inl (tc.1, 900, .inl o12)), (h_stack, .inl (tc.1, 65, .inl c_stack))]) [(true, 0), (false, 1), (false, 2), (false, 3), (false, 4), (false, 5), (true, 1), (false, 7)] (fun _ => rfl) (by decide +kernel) (fun o12 o13 => ?_)
          refine j_aload C d4_passError_72 1 rfl ?_
          refine j_dup C d4_passError_73 rfl ?_
          refine j_get C d4_passError_74 fl4_82 0 rfl rfl ?_
          refine j_const C d4_passError_77 ?_
          refine j_isub C d4_passError_78 ?_
          refine j_leti (fun x14 => ?_)
          refine j_putq C d4_passError_79 fq4_82 0 rfl rfl rfl (Nat.le_of_ble_eq_true rfl) (ws' := [(h_, .inr (4, [g_rules, .ref h_sets, g_table, .ref h_input, .ref h_synchronizing, g_trace, g_traceLength, g_tree, .ref h_errorParts, .int o13, .ref h_stack, g_bringers, .int x14, .int c_index, .int c_steps])), (h_sets, .inr (7, [g_sets_nullable, g_sets_first, .ref h_sets_follow, g_sets_begins])), (h_sets_follow, .inl (tc.1, 8, .inl c_sets_follow)), (h_input, .inr (3, [.ref h_input_terminals, .int c_input_length])), (h_input_terminals, .inl (tc.1, 40, .inl c_input_terminals)), (h_synchronizing, .inl (tc.1, 8, .inl c_synchronizing)), (h_errorParts, .inl (tc.1, 900, .inl o12)), (h_stack, .inl (tc.1, 65, .inl c_stack))]) rfl ?_
          refine j_goto C d4_passError_82 ?_
          exact j_sub [1] rfl (hk7 _ _ _ _)
      · refine j_aload C d4_passError_36 1 rfl ?_
        refine j_const C d4_passError_37 ?_
        refine j_iload C d4_passError_38 0 rfl ?_
        refine j_callVV2 (As := [.int 0, .int x1]) C d4_passError_39 mv4_157 (kX4_noteError _ _ tc h_ h_errorParts g_rules (.ref h_sets) g_table (.ref h_input) (.ref h_synchronizing) g_trace g_traceLength g_tree (.ref h_stack) g_bringers (.int c_depth) (.int c_steps) c_errorParts c_errorCount c_index 0 x1) ⟨rfl, rfl, Nat.le_of_ble_eq_true rfl, Nat.le_of_ble_eq_true rfl⟩ rfl 0 rfl [0, 6] rfl rfl rfl (Nat.le_of_ble_eq_true rfl) (fun o15 o16 => [(h_, .inr (4, [g_rules, .ref h_sets, g_table, .ref h_input, .ref h_synchronizing, g_trace, g_traceLength, g_tree, .ref h_errorParts, .int o16, .ref h_stack, g_bringers, .int c_depth, .int c_index, .int c_steps])), (h_sets, .inr (7, [g_sets_nullable, g_sets_first, .ref h_sets_follow, g_sets_begins])), (h_sets_follow, .inl (tc.1, 8, .inl c_sets_follow)), (h_input, .inr (3, [.ref h_input_terminals, .int c_input_length])), (h_input_terminals, .inl (tc.1, 40, .inl c_input_terminals)), (h_synchronizing, .inl (tc.1, 8, .inl c_synchronizing)), (h_errorParts, .inl (tc.1, 900, .inl o15)), (h_stack, .inl (tc.1, 65, .inl c_stack))]) [(true, 0), (false, 1), (false, 2), (false, 3), (false, 4), (false, 5), (true, 1), (false, 7)] (fun _ => rfl) (by decide +kernel) (fun o15 o16 => ?_)
        refine j_aload C d4_passError_42 1 rfl ?_
        refine j_dup C d4_passError_43 rfl ?_
        refine j_get C d4_passError_44 fl4_82 0 rfl rfl ?_
        refine j_const C d4_passError_47 ?_
        refine j_isub C d4_passError_48 ?_
        refine j_leti (fun x17 => ?_)
        refine j_putq C d4_passError_49 fq4_82 0 rfl rfl rfl (Nat.le_of_ble_eq_true rfl) (ws' := [(h_, .inr (4, [g_rules, .ref h_sets, g_table, .ref h_input, .ref h_synchronizing, g_trace, g_traceLength, g_tree, .ref h_errorParts, .int o16, .ref h_stack, g_bringers, .int x17, .int c_index, .int c_steps])), (h_sets, .inr (7, [g_sets_nullable, g_sets_first, .ref h_sets_follow, g_sets_begins])), (h_sets_follow, .inl (tc.1, 8, .inl c_sets_follow)), (h_input, .inr (3, [.ref h_input_terminals, .int c_input_length])), (h_input_terminals, .inl (tc.1, 40, .inl c_input_terminals)), (h_synchronizing, .inl (tc.1, 8, .inl c_synchronizing)), (h_errorParts, .inl (tc.1, 900, .inl o15)), (h_stack, .inl (tc.1, 65, .inl c_stack))]) rfl ?_
        refine j_goto C d4_passError_52 ?_
        exact j_sub [1] rfl (hk7 _ _ _ _)
    · refine j_aload C d4_passError_10 1 rfl ?_
      refine j_const C d4_passError_11 ?_
      refine j_iload C d4_passError_12 0 rfl ?_
      refine j_callVV2 (As := [.int 3, .int x1]) C d4_passError_13 mv4_157 (kX4_noteError _ _ tc h_ h_errorParts g_rules (.ref h_sets) g_table (.ref h_input) (.ref h_synchronizing) g_trace g_traceLength g_tree (.ref h_stack) g_bringers (.int c_depth) (.int c_steps) c_errorParts c_errorCount c_index 3 x1) ⟨rfl, rfl, Nat.le_of_ble_eq_true rfl, Nat.le_of_ble_eq_true rfl⟩ rfl 0 rfl [0, 6] rfl rfl rfl (Nat.le_of_ble_eq_true rfl) (fun o18 o19 => [(h_, .inr (4, [g_rules, .ref h_sets, g_table, .ref h_input, .ref h_synchronizing, g_trace, g_traceLength, g_tree, .ref h_errorParts, .int o19, .ref h_stack, g_bringers, .int c_depth, .int c_index, .int c_steps])), (h_sets, .inr (7, [g_sets_nullable, g_sets_first, .ref h_sets_follow, g_sets_begins])), (h_sets_follow, .inl (tc.1, 8, .inl c_sets_follow)), (h_input, .inr (3, [.ref h_input_terminals, .int c_input_length])), (h_input_terminals, .inl (tc.1, 40, .inl c_input_terminals)), (h_synchronizing, .inl (tc.1, 8, .inl c_synchronizing)), (h_errorParts, .inl (tc.1, 900, .inl o18)), (h_stack, .inl (tc.1, 65, .inl c_stack))]) [(true, 0), (false, 1), (false, 2), (false, 3), (false, 4), (false, 5), (true, 1), (false, 7)] (fun _ => rfl) (by decide +kernel) (fun o18 o19 => ?_)
      refine j_aload C d4_passError_16 1 rfl ?_
      refine j_aload C d4_passError_17 1 rfl ?_
      refine j_get C d4_passError_18 fl4_46 0 rfl rfl ?_
      refine j_get C d4_passError_21 fl4_102 3 rfl rfl ?_
      refine j_putq C d4_passError_24 fq4_93 0 rfl rfl rfl (Nat.le_of_ble_eq_true rfl) (ws' := [(h_, .inr (4, [g_rules, .ref h_sets, g_table, .ref h_input, .ref h_synchronizing, g_trace, g_traceLength, g_tree, .ref h_errorParts, .int o19, .ref h_stack, g_bringers, .int c_depth, .int c_input_length, .int c_steps])), (h_sets, .inr (7, [g_sets_nullable, g_sets_first, .ref h_sets_follow, g_sets_begins])), (h_sets_follow, .inl (tc.1, 8, .inl c_sets_follow)), (h_input, .inr (3, [.ref h_input_terminals, .int c_input_length])), (h_input_terminals, .inl (tc.1, 40, .inl c_input_terminals)), (h_synchronizing, .inl (tc.1, 8, .inl c_synchronizing)), (h_errorParts, .inl (tc.1, 900, .inl o18)), (h_stack, .inl (tc.1, 65, .inl c_stack))]) rfl ?_
      refine j_goto C d4_passError_27 ?_
      exact j_sub [1] rfl (hk7 _ _ _ _)

