theorem d4_errorPart_0 : jdi cX4_errorPart 0 1 1 := Or.inl ⟨1, by decide +kernel⟩
theorem d4_errorPart_1 : jdb cX4_errorPart 1 (.ifCond .lt 24) 24 25 4 := by decide +kernel
theorem d4_errorPart_4 : jdi cX4_errorPart 4 1 5 := Or.inl ⟨1, by decide +kernel⟩
theorem d4_errorPart_5 : jda cX4_errorPart 5 0 6 := Or.inl ⟨0, by decide +kernel⟩
theorem d4_errorPart_6 : jd cX4_errorPart 6 (.getfield 85) 3 9 := by decide +kernel
theorem d4_errorPart_9 : jdb cX4_errorPart 9 (.if_icmp .ge 16) 16 25 12 := by decide +kernel
theorem d4_errorPart_12 : jda cX4_errorPart 12 0 13 := Or.inl ⟨0, by decide +kernel⟩
theorem d4_errorPart_13 : jd cX4_errorPart 13 (.getfield 25) 3 16 := by decide +kernel
theorem d4_errorPart_16 : jdi cX4_errorPart 16 1 17 := Or.inl ⟨1, by decide +kernel⟩
theorem d4_errorPart_17 : jdk cX4_errorPart 17 3 18 := Or.inl ⟨3, by decide +kernel⟩
theorem d4_errorPart_18 : jd cX4_errorPart 18 (.imul) 1 19 := by decide +kernel
theorem d4_errorPart_19 : jdi cX4_errorPart 19 2 20 := Or.inl ⟨2, by decide +kernel⟩
theorem d4_errorPart_20 : jd cX4_errorPart 20 (.iadd) 1 21 := by decide +kernel
theorem d4_errorPart_21 : jd cX4_errorPart 21 (.iaload) 1 22 := by decide +kernel
theorem d4_errorPart_22 : jdb cX4_errorPart 22 (.goto 5) 5 27 25 := by decide +kernel
theorem d4_errorPart_25 : jdk cX4_errorPart 25 (-2) 27 := Or.inr (Or.inl ⟨(-2), by decide +kernel⟩)
theorem d4_errorPart_27 : decode cX4_errorPart 27 = .ok (.ireturn, 1) := by decide +kernel
set_option maxHeartbeats 4000000 in
set_option maxRecDepth 100000 in
theorem kX4_errorPart (l : Launch) (D : va_G) (tc : jTC) (h_ h_errorParts : Nat) (g_rules g_sets g_table g_input g_synchronizing g_trace g_traceLength g_tree g_stack g_bringers g_depth g_index g_steps : Value) (c_errorParts : (Nat → Int32)) (c_errorCount : Int32) (p1 : Int32) (p2 : Int32) : ctI0 l D tc yX4_errorPart (Cond.code yX4_errorPart cX4_errorPart 3 (some .int) :: jtb) ({ frames := 0, cells := 0, slots := 0, locals := 0 } : Room) [.ref h_, .int p1, .int p2] [(h_, .inr (4, [g_rules, g_sets, g_table, g_input, g_synchronizing, g_trace, g_traceLength, g_tree, .ref h_errorParts, .int c_errorCount, g_stack, g_bringers, g_depth, g_index, g_steps])), (h_errorParts, .inl (tc.1, 900, .inl c_errorParts))] (fX4_errorPart c_errorParts c_errorCount p1 p2) := by
  refine ctI0_of (lv0 := [(0, .ref h_), (1, .int p1), (2, .int p2)]) (by decide +kernel) (Nat.le_of_ble_eq_true rfl) rfl (fun X C => ?_)
  unfold fX4_errorPart
  refine j_iload C d4_errorPart_0 1 rfl ?_
  refine j_join 27 (fun v1 => [(h_, .inr (4, [g_rules, g_sets, g_table, g_input, g_synchronizing, g_trace, g_traceLength, g_tree, .ref h_errorParts, .int c_errorCount, g_stack, g_bringers, g_depth, g_index, g_steps])), (h_errorParts, .inl (tc.1, 900, .inl c_errorParts))]) (fun v1 => []) (fun v1 => [.int v1]) (fun v1 => ?_) (fun k2 hk2 => ?_)
  · exact j_iret0 C d4_errorPart_27
  · refine j_join 25 (fun v3 => [(h_, .inr (4, [g_rules, g_sets, g_table, g_input, g_synchronizing, g_trace, g_traceLength, g_tree, .ref h_errorParts, .int c_errorCount, g_stack, g_bringers, g_depth, g_index, g_steps])), (h_errorParts, .inl (tc.1, 900, .inl c_errorParts))]) (fun v3 => []) (fun v3 => []) (fun v3 => ?_) (fun k4 hk4 => ?_)
    · refine j_const C d4_errorPart_25 ?_
      exact hk2 _
    · refine j_if_lt C d4_errorPart_1 ?_ ?_
      · exact j_sub [] rfl (hk4 _)
      · refine j_iload C d4_errorPart_4 1 rfl ?_
        refine j_aload C d4_errorPart_5 0 rfl ?_
        refine j_get C d4_errorPart_6 fl4_85 0 rfl rfl ?_
        refine j_icmp_ge C d4_errorPart_9 ?_ ?_
        · exact j_sub [] rfl (hk4 _)
        · refine j_aload C d4_errorPart_12 0 rfl ?_
          refine j_get C d4_errorPart_13 fl4_25 0 rfl rfl ?_
          refine j_iload C d4_errorPart_16 1 rfl ?_
          refine j_const C d4_errorPart_17 ?_
          refine j_imul C d4_errorPart_18 ?_
          refine j_iload C d4_errorPart_19 2 rfl ?_
          refine j_iadd C d4_errorPart_20 ?_
          refine j_iald C d4_errorPart_21 1 rfl (fun x5 => ?_)
          refine j_goto C d4_errorPart_22 ?_
          exact j_sub [] rfl (hk2 _)

theorem d5_wordOf_0 : jdi cX5_wordOf 0 0 1 := Or.inl ⟨0, by decide +kernel⟩
theorem d5_wordOf_1 : jdk cX5_wordOf 1 9 3 := Or.inr (Or.inl ⟨9, by decide +kernel⟩)
theorem d5_wordOf_3 : jd cX5_wordOf 3 (.imul) 1 4 := by decide +kernel
theorem d5_wordOf_4 : jdi cX5_wordOf 4 1 5 := Or.inl ⟨1, by decide +kernel⟩
theorem d5_wordOf_5 : jd cX5_wordOf 5 (.iadd) 1 6 := by decide +kernel
theorem d5_wordOf_6 : jdk cX5_wordOf 6 18 8 := Or.inr (Or.inl ⟨18, by decide +kernel⟩)
theorem d5_wordOf_8 : jd cX5_wordOf 8 (.imul) 1 9 := by decide +kernel
theorem d5_wordOf_9 : jdi cX5_wordOf 9 2 10 := Or.inl ⟨2, by decide +kernel⟩
theorem d5_wordOf_10 : jd cX5_wordOf 10 (.iadd) 1 11 := by decide +kernel
theorem d5_wordOf_11 : decode cX5_wordOf 11 = .ok (.ireturn, 1) := by decide +kernel
set_option maxHeartbeats 4000000 in
set_option maxRecDepth 100000 in
theorem kX5_wordOf (l : Launch) (D : va_G) (tc : jTC) (p0 : Int32) (p1 : Int32) (p2 : Int32) : ctI0 l D tc yX5_wordOf (Cond.code yX5_wordOf cX5_wordOf 3 (some .int) :: jtb) ({ frames := 0, cells := 0, slots := 0, locals := 0 } : Room) [.int p0, .int p1, .int p2] [] (fX5_wordOf p0 p1 p2) := by
  refine ctI0_of (lv0 := [(0, .int p0), (1, .int p1), (2, .int p2)]) (by decide +kernel) (Nat.le_of_ble_eq_true rfl) rfl (fun X C => ?_)
  unfold fX5_wordOf
  refine j_iload C d5_wordOf_0 0 rfl ?_
  refine j_const C d5_wordOf_1 ?_
  refine j_imul C d5_wordOf_3 ?_
  refine j_iload C d5_wordOf_4 1 rfl ?_
  refine j_iadd C d5_wordOf_5 ?_
  refine j_const C d5_wordOf_6 ?_
  refine j_imul C d5_wordOf_8 ?_
  refine j_iload C d5_wordOf_9 2 rfl ?_
  refine j_iadd C d5_wordOf_10 ?_
  exact j_iret0 C d5_wordOf_11

theorem d5_putTerminals_0 : jdk cX5_putTerminals 0 0 1 := Or.inl ⟨0, by decide +kernel⟩
theorem d5_putTerminals_1 : jds cX5_putTerminals 1 3 2 := Or.inl ⟨3, by decide +kernel⟩
theorem d5_putTerminals_2 : jdi cX5_putTerminals 2 3 3 := Or.inl ⟨3, by decide +kernel⟩
theorem d5_putTerminals_3 : jdk cX5_putTerminals 3 8 5 := Or.inr (Or.inl ⟨8, by decide +kernel⟩)
theorem d5_putTerminals_5 : jdb cX5_putTerminals 5 (.if_icmp .ge 69) 69 74 8 := by decide +kernel
theorem d5_putTerminals_8 : jdi cX5_putTerminals 8 1 9 := Or.inl ⟨1, by decide +kernel⟩
theorem d5_putTerminals_9 : jdi cX5_putTerminals 9 2 10 := Or.inl ⟨2, by decide +kernel⟩
theorem d5_putTerminals_10 : jdi cX5_putTerminals 10 3 11 := Or.inl ⟨3, by decide +kernel⟩
theorem d5_putTerminals_11 : jd cX5_putTerminals 11 (.invokestatic 48) 3 14 := by decide +kernel
theorem d5_putTerminals_14 : jds cX5_putTerminals 14 4 16 := Or.inr (by decide +kernel)
theorem d5_putTerminals_16 : jdi cX5_putTerminals 16 2 17 := Or.inl ⟨2, by decide +kernel⟩
theorem d5_putTerminals_17 : jdi cX5_putTerminals 17 1 18 := Or.inl ⟨1, by decide +kernel⟩
theorem d5_putTerminals_18 : jdb cX5_putTerminals 18 (.if_icmp .eq 22) 22 40 21 := by decide +kernel
theorem d5_putTerminals_21 : jdi cX5_putTerminals 21 2 22 := Or.inl ⟨2, by decide +kernel⟩
theorem d5_putTerminals_22 : jdi cX5_putTerminals 22 1 23 := Or.inl ⟨1, by decide +kernel⟩
theorem d5_putTerminals_23 : jdk cX5_putTerminals 23 1 24 := Or.inl ⟨1, by decide +kernel⟩
theorem d5_putTerminals_24 : jd cX5_putTerminals 24 (.iadd) 1 25 := by decide +kernel
theorem d5_putTerminals_25 : jdb cX5_putTerminals 25 (.if_icmp .ne 34) 34 59 28 := by decide +kernel
theorem d5_putTerminals_28 : jda cX5_putTerminals 28 0 29 := Or.inl ⟨0, by decide +kernel⟩
theorem d5_putTerminals_29 : jd cX5_putTerminals 29 (.getfield 28) 3 32 := by decide +kernel
theorem d5_putTerminals_32 : jdi cX5_putTerminals 32 1 33 := Or.inl ⟨1, by decide +kernel⟩
theorem d5_putTerminals_33 : jd cX5_putTerminals 33 (.invokevirtual 81) 3 36 := by decide +kernel
theorem d5_putTerminals_36 : jdi cX5_putTerminals 36 3 37 := Or.inl ⟨3, by decide +kernel⟩
theorem d5_putTerminals_37 : jdb cX5_putTerminals 37 (.if_icmp .ne 22) 22 59 40 := by decide +kernel
theorem d5_putTerminals_40 : jda cX5_putTerminals 40 0 41 := Or.inl ⟨0, by decide +kernel⟩
theorem d5_putTerminals_41 : jd cX5_putTerminals 41 (.getfield 20) 3 44 := by decide +kernel
theorem d5_putTerminals_44 : jdi cX5_putTerminals 44 4 46 := Or.inr (by decide +kernel)
theorem d5_putTerminals_46 : jdi cX5_putTerminals 46 3 47 := Or.inl ⟨3, by decide +kernel⟩
theorem d5_putTerminals_47 : jda cX5_putTerminals 47 0 48 := Or.inl ⟨0, by decide +kernel⟩
theorem d5_putTerminals_48 : jd cX5_putTerminals 48 (.getfield 11) 3 51 := by decide +kernel
theorem d5_putTerminals_51 : jdi cX5_putTerminals 51 3 52 := Or.inl ⟨3, by decide +kernel⟩
theorem d5_putTerminals_52 : jd cX5_putTerminals 52 (.iaload) 1 53 := by decide +kernel
theorem d5_putTerminals_53 : jd cX5_putTerminals 53 (.invokevirtual 84) 3 56 := by decide +kernel
theorem d5_putTerminals_56 : jdb cX5_putTerminals 56 (.goto 12) 12 68 59 := by decide +kernel
theorem d5_putTerminals_59 : jda cX5_putTerminals 59 0 60 := Or.inl ⟨0, by decide +kernel⟩
theorem d5_putTerminals_60 : jd cX5_putTerminals 60 (.getfield 20) 3 63 := by decide +kernel
theorem d5_putTerminals_63 : jdi cX5_putTerminals 63 4 65 := Or.inr (by decide +kernel)
theorem d5_putTerminals_65 : jd cX5_putTerminals 65 (.invokevirtual 66) 3 68 := by decide +kernel
theorem d5_putTerminals_68 : jd cX5_putTerminals 68 (.iinc 3 1) 3 71 := by decide +kernel
theorem d5_putTerminals_71 : jdb cX5_putTerminals 71 (.goto (-69)) (-69) 2 74 := by decide +kernel
theorem d5_putTerminals_74 : decode cX5_putTerminals 74 = .ok (.return_, 1) := by decide +kernel
set_option maxHeartbeats 4000000 in
set_option maxRecDepth 100000 in
theorem wX5_putTerminals_2 {X : jC} {tc : jTC} (C : jx X cX5_putTerminals 5 RX5 none tc ({ frames := 2, cells := 0, slots := 0, locals := 49 } : Room)) (h_ h_input h_input_terminals h_weights h_words h_words_costs h_words_highs h_words_lows : Nat) (g_rules : Value) (p1 : Int32) (p2 : Int32) (c_input_terminals : (Nat → Int32)) (c_input_length : Int32) (c_weights : (Nat → Int32)) (k4 : ((Nat → Int32) → (Nat → Int64) → (Nat → Int64) → Option ((Nat → Int32) × (Nat → Int64) × (Nat → Int64)))) (hk4 : ∀ (v28 : (Nat → Int32)) (v29 : (Nat → Int64)) (v30 : (Nat → Int64)), jo X 5 (0, 0) (jQV X (fun (u : (Nat → Int32) × (Nat → Int64) × (Nat → Int64)) => [(h_, .inr (5, [g_rules, .ref h_input, .ref h_weights, .ref h_words])), (h_input, .inr (3, [.ref h_input_terminals, .int c_input_length])), (h_input_terminals, .inl (tc.1, 40, .inl c_input_terminals)), (h_weights, .inl (tc.1, 8, .inl c_weights)), (h_words, .inr (10, [.ref h_words_costs, .ref h_words_highs, .ref h_words_lows])), (h_words_costs, .inl (tc.1, 1469, .inl u.1)), (h_words_highs, .inl (tc.2.1, 1469, .inr (.inl u.2.1))), (h_words_lows, .inl (tc.2.1, 1469, .inr (.inl u.2.2)))])) (k4 v28 v29 v30) [(h_, .inr (5, [g_rules, .ref h_input, .ref h_weights, .ref h_words])), (h_input, .inr (3, [.ref h_input_terminals, .int c_input_length])), (h_input_terminals, .inl (tc.1, 40, .inl c_input_terminals)), (h_weights, .inl (tc.1, 8, .inl c_weights)), (h_words, .inr (10, [.ref h_words_costs, .ref h_words_highs, .ref h_words_lows])), (h_words_costs, .inl (tc.1, 1469, .inl v28)), (h_words_highs, .inl (tc.2.1, 1469, .inr (.inl v29))), (h_words_lows, .inl (tc.2.1, 1469, .inr (.inl v30)))] 74 [] []) (rc9 : Int32 → (Nat → Int32) → (Nat → Int64) → (Nat → Int64) → Option ((Nat → Int32) × (Nat → Int64) × (Nat → Int64))) (hrc9 : ∀ (v5 : Int32) (v6 : (Nat → Int32)) (v7 : (Nat → Int64)) (v8 : (Nat → Int64)), jo X 5 (0, 0) (jQV X (fun (u : (Nat → Int32) × (Nat → Int64) × (Nat → Int64)) => [(h_, .inr (5, [g_rules, .ref h_input, .ref h_weights, .ref h_words])), (h_input, .inr (3, [.ref h_input_terminals, .int c_input_length])), (h_input_terminals, .inl (tc.1, 40, .inl c_input_terminals)), (h_weights, .inl (tc.1, 8, .inl c_weights)), (h_words, .inr (10, [.ref h_words_costs, .ref h_words_highs, .ref h_words_lows])), (h_words_costs, .inl (tc.1, 1469, .inl u.1)), (h_words_highs, .inl (tc.2.1, 1469, .inr (.inl u.2.1))), (h_words_lows, .inl (tc.2.1, 1469, .inr (.inl u.2.2)))])) (rc9 v5 v6 v7 v8) [(h_, .inr (5, [g_rules, .ref h_input, .ref h_weights, .ref h_words])), (h_input, .inr (3, [.ref h_input_terminals, .int c_input_length])), (h_input_terminals, .inl (tc.1, 40, .inl c_input_terminals)), (h_weights, .inl (tc.1, 8, .inl c_weights)), (h_words, .inr (10, [.ref h_words_costs, .ref h_words_highs, .ref h_words_lows])), (h_words_costs, .inl (tc.1, 1469, .inl v6)), (h_words_highs, .inl (tc.2.1, 1469, .inr (.inl v7))), (h_words_lows, .inl (tc.2.1, 1469, .inr (.inl v8)))] 2 [(0, .ref h_), (1, .int p1), (2, .int p2), (3, .int v5)] []) (v5 : Int32) (v6 : (Nat → Int32)) (v7 : (Nat → Int64)) (v8 : (Nat → Int64)) : jo X 5 (0, 0) (jQV X (fun (u : (Nat → Int32) × (Nat → Int64) × (Nat → Int64)) => [(h_, .inr (5, [g_rules, .ref h_input, .ref h_weights, .ref h_words])), (h_input, .inr (3, [.ref h_input_terminals, .int c_input_length])), (h_input_terminals, .inl (tc.1, 40, .inl c_input_terminals)), (h_weights, .inl (tc.1, 8, .inl c_weights)), (h_words, .inr (10, [.ref h_words_costs, .ref h_words_highs, .ref h_words_lows])), (h_words_costs, .inl (tc.1, 1469, .inl u.1)), (h_words_highs, .inl (tc.2.1, 1469, .inr (.inl u.2.1))), (h_words_lows, .inl (tc.2.1, 1469, .inr (.inl u.2.2)))])) (bX5_putTerminals_2 p1 p2 c_input_terminals c_input_length c_weights k4 rc9 v5 v6 v7 v8) [(h_, .inr (5, [g_rules, .ref h_input, .ref h_weights, .ref h_words])), (h_input, .inr (3, [.ref h_input_terminals, .int c_input_length])), (h_input_terminals, .inl (tc.1, 40, .inl c_input_terminals)), (h_weights, .inl (tc.1, 8, .inl c_weights)), (h_words, .inr (10, [.ref h_words_costs, .ref h_words_highs, .ref h_words_lows])), (h_words_costs, .inl (tc.1, 1469, .inl v6)), (h_words_highs, .inl (tc.2.1, 1469, .inr (.inl v7))), (h_words_lows, .inl (tc.2.1, 1469, .inr (.inl v8)))] 2 [(0, .ref h_), (1, .int p1), (2, .int p2), (3, .int v5)] [] := by
  unfold bX5_putTerminals_2
  refine j_iload C d5_putTerminals_2 3 rfl ?_
  refine j_const C d5_putTerminals_3 ?_
  refine j_icmp_ge C d5_putTerminals_5 ?_ ?_
  · exact j_sub [] rfl (hk4 _ _ _)
  · refine j_iload C d5_putTerminals_8 1 rfl ?_
    refine j_iload C d5_putTerminals_9 2 rfl ?_
    refine j_iload C d5_putTerminals_10 3 rfl ?_
    refine j_callSI0 (As := [.int p1, .int p2, .int v5]) C d5_putTerminals_11 ms5_48 (kX5_wordOf _ _ tc p1 p2 v5) ⟨rfl, rfl, Nat.le_of_ble_eq_true rfl, Nat.le_of_ble_eq_true rfl⟩ rfl [] rfl rfl rfl (Nat.le_of_ble_eq_true rfl) (fun x10 => ?_)
    refine j_istore C d5_putTerminals_14 (by decide) (lv' := [(4, .int x10), (0, .ref h_), (1, .int p1), (2, .int p2), (3, .int v5)]) rfl ?_
    refine j_iload C d5_putTerminals_16 3 rfl ?_
    refine j_iload C d5_putTerminals_17 2 rfl ?_
    refine j_join3 68 (fun v11 v12 v13 => [(h_, .inr (5, [g_rules, .ref h_input, .ref h_weights, .ref h_words])), (h_input, .inr (3, [.ref h_input_terminals, .int c_input_length])), (h_input_terminals, .inl (tc.1, 40, .inl c_input_terminals)), (h_weights, .inl (tc.1, 8, .inl c_weights)), (h_words, .inr (10, [.ref h_words_costs, .ref h_words_highs, .ref h_words_lows])), (h_words_costs, .inl (tc.1, 1469, .inl v11)), (h_words_highs, .inl (tc.2.1, 1469, .inr (.inl v12))), (h_words_lows, .inl (tc.2.1, 1469, .inr (.inl v13)))]) (fun v11 v12 v13 => [(0, .ref h_), (1, .int p1), (2, .int p2), (3, .int v5)]) (fun v11 v12 v13 => []) (fun v11 v12 v13 => ?_) (fun k15 hk15 => ?_)
    · refine j_iincN C (fun x14 => [(3, .int x14), (0, .ref h_), (1, .int p1), (2, .int p2)]) d5_putTerminals_68 3 rfl (by decide +kernel) (by decide) (fun _ => rfl) (fun x14 => ?_)
      refine j_goto C d5_putTerminals_71 ?_
      exact j_sub [1, 2, 3, 0] rfl (hrc9 _ _ _ _)
    · refine j_join 40 (fun v16 => [(h_, .inr (5, [g_rules, .ref h_input, .ref h_weights, .ref h_words])), (h_input, .inr (3, [.ref h_input_terminals, .int c_input_length])), (h_input_terminals, .inl (tc.1, 40, .inl c_input_terminals)), (h_weights, .inl (tc.1, 8, .inl c_weights)), (h_words, .inr (10, [.ref h_words_costs, .ref h_words_highs, .ref h_words_lows])), (h_words_costs, .inl (tc.1, 1469, .inl v6)), (h_words_highs, .inl (tc.2.1, 1469, .inr (.inl v7))), (h_words_lows, .inl (tc.2.1, 1469, .inr (.inl v8)))]) (fun v16 => [(0, .ref h_), (1, .int p1), (2, .int p2), (3, .int v5), (4, .int x10)]) (fun v16 => []) (fun v16 => ?_) (fun k21 hk21 => ?_)
      · refine j_aload C d5_putTerminals_40 0 rfl ?_
        refine j_get C d5_putTerminals_41 fl5_20 0 rfl rfl ?_
        refine j_iload C d5_putTerminals_44 4 rfl ?_
        refine j_iload C d5_putTerminals_46 3 rfl ?_
        refine j_aload C d5_putTerminals_47 0 rfl ?_
        refine j_get C d5_putTerminals_48 fl5_11 0 rfl rfl ?_
        refine j_iload C d5_putTerminals_51 3 rfl ?_
        refine j_iald C d5_putTerminals_52 3 rfl (fun x17 => ?_)
        refine j_callVV3 (As := [.int x10, .int v5, .int x17]) C d5_putTerminals_53 mv5_84 (kX10_putTerminal _ _ tc 1469 h_words h_words_costs h_words_highs h_words_lows v6 v7 v8 x10 v5 x17) ⟨rfl, rfl, Nat.le_of_ble_eq_true rfl, Nat.le_of_ble_eq_true rfl⟩ rfl 4 rfl [4, 5, 6, 7] rfl rfl rfl (Nat.le_of_ble_eq_true rfl) (fun o18 o19 o20 => [(h_, .inr (5, [g_rules, .ref h_input, .ref h_weights, .ref h_words])), (h_input, .inr (3, [.ref h_input_terminals, .int c_input_length])), (h_input_terminals, .inl (tc.1, 40, .inl c_input_terminals)), (h_weights, .inl (tc.1, 8, .inl c_weights)), (h_words, .inr (10, [.ref h_words_costs, .ref h_words_highs, .ref h_words_lows])), (h_words_costs, .inl (tc.1, 1469, .inl o18)), (h_words_highs, .inl (tc.2.1, 1469, .inr (.inl o19))), (h_words_lows, .inl (tc.2.1, 1469, .inr (.inl o20)))]) (fun _ => rfl) (fun _ => rfl) (fun _ _ _ => rfl) (fun o18 o19 o20 => ?_)
        refine j_goto C d5_putTerminals_56 ?_
        exact j_sub [0, 1, 2, 3] rfl (hk15 _ _ _)
      · refine j_icmp_eq C d5_putTerminals_18 ?_ ?_
        · exact j_sub [1, 2, 3, 4, 0] rfl (hk21 _)
        · refine j_iload C d5_putTerminals_21 3 rfl ?_
          refine j_iload C d5_putTerminals_22 2 rfl ?_
          refine j_const C d5_putTerminals_23 ?_
          refine j_iadd C d5_putTerminals_24 ?_
          refine j_join 59 (fun v22 => [(h_, .inr (5, [g_rules, .ref h_input, .ref h_weights, .ref h_words])), (h_input, .inr (3, [.ref h_input_terminals, .int c_input_length])), (h_input_terminals, .inl (tc.1, 40, .inl c_input_terminals)), (h_weights, .inl (tc.1, 8, .inl c_weights)), (h_words, .inr (10, [.ref h_words_costs, .ref h_words_highs, .ref h_words_lows])), (h_words_costs, .inl (tc.1, 1469, .inl v6)), (h_words_highs, .inl (tc.2.1, 1469, .inr (.inl v7))), (h_words_lows, .inl (tc.2.1, 1469, .inr (.inl v8)))]) (fun v22 => [(0, .ref h_), (1, .int p1), (2, .int p2), (3, .int v5), (4, .int x10)]) (fun v22 => []) (fun v22 => ?_) (fun k26 hk26 => ?_)
          · refine j_aload C d5_putTerminals_59 0 rfl ?_
            refine j_get C d5_putTerminals_60 fl5_20 0 rfl rfl ?_
            refine j_iload C d5_putTerminals_63 4 rfl ?_
            refine j_callVV3 (As := [.int x10]) C d5_putTerminals_65 mv5_66 (kX10_putNone _ _ tc 1469 h_words h_words_costs h_words_highs h_words_lows v6 v7 v8 x10) ⟨rfl, rfl, Nat.le_of_ble_eq_true rfl, Nat.le_of_ble_eq_true rfl⟩ rfl 4 rfl [4, 5, 6, 7] rfl rfl rfl (Nat.le_of_ble_eq_true rfl) (fun o23 o24 o25 => [(h_, .inr (5, [g_rules, .ref h_input, .ref h_weights, .ref h_words])), (h_input, .inr (3, [.ref h_input_terminals, .int c_input_length])), (h_input_terminals, .inl (tc.1, 40, .inl c_input_terminals)), (h_weights, .inl (tc.1, 8, .inl c_weights)), (h_words, .inr (10, [.ref h_words_costs, .ref h_words_highs, .ref h_words_lows])), (h_words_costs, .inl (tc.1, 1469, .inl o23)), (h_words_highs, .inl (tc.2.1, 1469, .inr (.inl o24))), (h_words_lows, .inl (tc.2.1, 1469, .inr (.inl o25)))]) (fun _ => rfl) (fun _ => rfl) (fun _ _ _ => rfl) (fun o23 o24 o25 => ?_)
            exact j_sub [0, 1, 2, 3] rfl (hk15 _ _ _)
          · refine j_icmp_ne C d5_putTerminals_25 ?_ ?_
            · exact j_sub [1, 2, 3, 4, 0] rfl (hk26 _)
            · refine j_aload C d5_putTerminals_28 1 rfl ?_
              refine j_get C d5_putTerminals_29 fl5_28 0 rfl rfl ?_
              refine j_iload C d5_putTerminals_32 2 rfl ?_
              refine j_callVI0 (As := [.int p1]) C d5_putTerminals_33 mv5_81 (kX3_tokenAt _ _ tc h_input h_input_terminals c_input_terminals c_input_length p1) ⟨rfl, rfl, Nat.le_of_ble_eq_true rfl, Nat.le_of_ble_eq_true rfl⟩ rfl 1 rfl [1, 2] rfl rfl rfl (Nat.le_of_ble_eq_true rfl) (fun x27 => ?_)
              refine j_iload C d5_putTerminals_36 4 rfl ?_
              refine j_icmp_ne C d5_putTerminals_37 ?_ ?_
              · exact j_sub [1, 2, 3, 4, 0] rfl (hk26 _)
              · exact j_sub [1, 2, 3, 4, 0] rfl (hk21 _)

set_option maxHeartbeats 4000000 in
set_option maxRecDepth 100000 in
theorem kX5_putTerminals (l : Launch) (D : va_G) (tc : jTC) (N : Nat) (h_ h_input h_input_terminals h_weights h_words h_words_costs h_words_highs h_words_lows : Nat) (g_rules : Value) (c_input_terminals : (Nat → Int32)) (c_input_length : Int32) (c_weights : (Nat → Int32)) (c_words_costs : (Nat → Int32)) (c_words_highs : (Nat → Int64)) (c_words_lows : (Nat → Int64)) (p1 : Int32) (p2 : Int32) : ctV l D tc yX5_putTerminals (Cond.code yX5_putTerminals cX5_putTerminals 5 none :: jtb) ({ frames := 2, cells := 0, slots := 0, locals := 49 } : Room) [.ref h_, .int p1, .int p2] [(h_, .inr (5, [g_rules, .ref h_input, .ref h_weights, .ref h_words])), (h_input, .inr (3, [.ref h_input_terminals, .int c_input_length])), (h_input_terminals, .inl (tc.1, 40, .inl c_input_terminals)), (h_weights, .inl (tc.1, 8, .inl c_weights)), (h_words, .inr (10, [.ref h_words_costs, .ref h_words_highs, .ref h_words_lows])), (h_words_costs, .inl (tc.1, 1469, .inl c_words_costs)), (h_words_highs, .inl (tc.2.1, 1469, .inr (.inl c_words_highs))), (h_words_lows, .inl (tc.2.1, 1469, .inr (.inl c_words_lows)))] (fX5_putTerminals N c_input_terminals c_input_length c_weights c_words_costs c_words_highs c_words_lows p1 p2) (fun (u : (Nat → Int32) × (Nat → Int64) × (Nat → Int64)) => [(h_, .inr (5, [g_rules, .ref h_input, .ref h_weights, .ref h_words])), (h_input, .inr (3, [.ref h_input_terminals, .int c_input_length])), (h_input_terminals, .inl (tc.1, 40, .inl c_input_terminals)), (h_weights, .inl (tc.1, 8, .inl c_weights)), (h_words, .inr (10, [.ref h_words_costs, .ref h_words_highs, .ref h_words_lows])), (h_words_costs, .inl (tc.1, 1469, .inl u.1)), (h_words_highs, .inl (tc.2.1, 1469, .inr (.inl u.2.1))), (h_words_lows, .inl (tc.2.1, 1469, .inr (.inl u.2.2)))]) := by
  refine ctV_of (lv0 := [(0, .ref h_), (1, .int p1), (2, .int p2)]) (by decide +kernel) (Nat.le_of_ble_eq_true rfl) rfl (fun X C => ?_)
  unfold fX5_putTerminals
  refine j_const C d5_putTerminals_0 ?_
  refine j_istore C d5_putTerminals_1 (by decide) (lv' := [(3, .int 0), (0, .ref h_), (1, .int p1), (2, .int p2)]) rfl ?_
  refine j_join3 74 (fun v1 v2 v3 => [(h_, .inr (5, [g_rules, .ref h_input, .ref h_weights, .ref h_words])), (h_input, .inr (3, [.ref h_input_terminals, .int c_input_length])), (h_input_terminals, .inl (tc.1, 40, .inl c_input_terminals)), (h_weights, .inl (tc.1, 8, .inl c_weights)), (h_words, .inr (10, [.ref h_words_costs, .ref h_words_highs, .ref h_words_lows])), (h_words_costs, .inl (tc.1, 1469, .inl v1)), (h_words_highs, .inl (tc.2.1, 1469, .inr (.inl v2))), (h_words_lows, .inl (tc.2.1, 1469, .inr (.inl v3)))]) (fun v1 v2 v3 => []) (fun v1 v2 v3 => []) (fun v1 v2 v3 => ?_) (fun k4 hk4 => ?_)
  · exact j_vret C d5_putTerminals_74 rfl
  · exact j_sub [1, 2, 3, 0] rfl (j_loop4 (fun v5 v6 v7 v8 => [(h_, .inr (5, [g_rules, .ref h_input, .ref h_weights, .ref h_words])), (h_input, .inr (3, [.ref h_input_terminals, .int c_input_length])), (h_input_terminals, .inl (tc.1, 40, .inl c_input_terminals)), (h_weights, .inl (tc.1, 8, .inl c_weights)), (h_words, .inr (10, [.ref h_words_costs, .ref h_words_highs, .ref h_words_lows])), (h_words_costs, .inl (tc.1, 1469, .inl v6)), (h_words_highs, .inl (tc.2.1, 1469, .inr (.inl v7))), (h_words_lows, .inl (tc.2.1, 1469, .inr (.inl v8)))]) (fun v5 v6 v7 v8 => [(0, .ref h_), (1, .int p1), (2, .int p2), (3, .int v5)]) (fun rc9 hrc9 v5 v6 v7 v8 => wX5_putTerminals_2 C h_ h_input h_input_terminals h_weights h_words h_words_costs h_words_highs h_words_lows g_rules p1 p2 c_input_terminals c_input_length c_weights k4 hk4 rc9 hrc9 v5 v6 v7 v8) N _ _ _ _)

theorem d10_lowerToJoined_0 : jda cX10_lowerToJoined 0 0 1 := Or.inl ⟨0, by decide +kernel⟩
theorem d10_lowerToJoined_1 : jd cX10_lowerToJoined 1 (.getfield 17) 3 4 := by decide +kernel
theorem d10_lowerToJoined_4 : jdi cX10_lowerToJoined 4 2 5 := Or.inl ⟨2, by decide +kernel⟩
theorem d10_lowerToJoined_5 : jd cX10_lowerToJoined 5 (.iaload) 1 6 := by decide +kernel
theorem d10_lowerToJoined_6 : jda cX10_lowerToJoined 6 0 7 := Or.inl ⟨0, by decide +kernel⟩
theorem d10_lowerToJoined_7 : jd cX10_lowerToJoined 7 (.getfield 17) 3 10 := by decide +kernel
theorem d10_lowerToJoined_10 : jdi cX10_lowerToJoined 10 3 11 := Or.inl ⟨3, by decide +kernel⟩
theorem d10_lowerToJoined_11 : jd cX10_lowerToJoined 11 (.iaload) 1 12 := by decide +kernel
theorem d10_lowerToJoined_12 : jd cX10_lowerToJoined 12 (.iadd) 1 13 := by decide +kernel
theorem d10_lowerToJoined_13 : jds cX10_lowerToJoined 13 4 15 := Or.inr (by decide +kernel)
theorem d10_lowerToJoined_15 : jdi cX10_lowerToJoined 15 4 17 := Or.inr (by decide +kernel)
theorem d10_lowerToJoined_17 : jd cX10_lowerToJoined 17 (.ldc 28) 2 19 := by decide +kernel
theorem d10_lowerToJoined_19 : jdb cX10_lowerToJoined 19 (.if_icmp .ge 14) 14 33 22 := by decide +kernel
theorem d10_lowerToJoined_22 : jdi cX10_lowerToJoined 22 4 24 := Or.inr (by decide +kernel)
theorem d10_lowerToJoined_24 : jda cX10_lowerToJoined 24 0 25 := Or.inl ⟨0, by decide +kernel⟩
theorem d10_lowerToJoined_25 : jd cX10_lowerToJoined 25 (.getfield 17) 3 28 := by decide +kernel
theorem d10_lowerToJoined_28 : jdi cX10_lowerToJoined 28 1 29 := Or.inl ⟨1, by decide +kernel⟩
theorem d10_lowerToJoined_29 : jd cX10_lowerToJoined 29 (.iaload) 1 30 := by decide +kernel
theorem d10_lowerToJoined_30 : jdb cX10_lowerToJoined 30 (.if_icmp .le 4) 4 34 33 := by decide +kernel
theorem d10_lowerToJoined_33 : decode cX10_lowerToJoined 33 = .ok (.return_, 1) := by decide +kernel
theorem d10_lowerToJoined_34 : jda cX10_lowerToJoined 34 0 35 := Or.inl ⟨0, by decide +kernel⟩
theorem d10_lowerToJoined_35 : jdi cX10_lowerToJoined 35 2 36 := Or.inl ⟨2, by decide +kernel⟩
theorem d10_lowerToJoined_36 : jdi cX10_lowerToJoined 36 3 37 := Or.inl ⟨3, by decide +kernel⟩
theorem d10_lowerToJoined_37 : jd cX10_lowerToJoined 37 (.invokevirtual 47) 3 40 := by decide +kernel
theorem d10_lowerToJoined_40 : jd cX10_lowerToJoined 40 (.lstore 5) 2 42 := by decide +kernel
theorem d10_lowerToJoined_42 : jda cX10_lowerToJoined 42 0 43 := Or.inl ⟨0, by decide +kernel⟩
theorem d10_lowerToJoined_43 : jdi cX10_lowerToJoined 43 2 44 := Or.inl ⟨2, by decide +kernel⟩
theorem d10_lowerToJoined_44 : jdi cX10_lowerToJoined 44 3 45 := Or.inl ⟨3, by decide +kernel⟩
theorem d10_lowerToJoined_45 : jd cX10_lowerToJoined 45 (.invokevirtual 51) 3 48 := by decide +kernel
theorem d10_lowerToJoined_48 : jd cX10_lowerToJoined 48 (.lstore 7) 2 50 := by decide +kernel
theorem d10_lowerToJoined_50 : jda cX10_lowerToJoined 50 0 51 := Or.inl ⟨0, by decide +kernel⟩
theorem d10_lowerToJoined_51 : jdi cX10_lowerToJoined 51 1 52 := Or.inl ⟨1, by decide +kernel⟩
theorem d10_lowerToJoined_52 : jdi cX10_lowerToJoined 52 4 54 := Or.inr (by decide +kernel)
theorem d10_lowerToJoined_54 : jdl cX10_lowerToJoined 54 5 56 := Or.inr (by decide +kernel)
theorem d10_lowerToJoined_56 : jdl cX10_lowerToJoined 56 7 58 := Or.inr (by decide +kernel)
theorem d10_lowerToJoined_58 : jd cX10_lowerToJoined 58 (.invokevirtual 54) 3 61 := by decide +kernel
theorem d10_lowerToJoined_61 : jdb cX10_lowerToJoined 61 (.ifCond .eq 14) 14 75 64 := by decide +kernel
theorem d10_lowerToJoined_64 : jda cX10_lowerToJoined 64 0 65 := Or.inl ⟨0, by decide +kernel⟩
theorem d10_lowerToJoined_65 : jdi cX10_lowerToJoined 65 1 66 := Or.inl ⟨1, by decide +kernel⟩
theorem d10_lowerToJoined_66 : jdi cX10_lowerToJoined 66 4 68 := Or.inr (by decide +kernel)
theorem d10_lowerToJoined_68 : jdl cX10_lowerToJoined 68 5 70 := Or.inr (by decide +kernel)
theorem d10_lowerToJoined_70 : jdl cX10_lowerToJoined 70 7 72 := Or.inr (by decide +kernel)
theorem d10_lowerToJoined_72 : jd cX10_lowerToJoined 72 (.invokevirtual 37) 3 75 := by decide +kernel
theorem d10_lowerToJoined_75 : decode cX10_lowerToJoined 75 = .ok (.return_, 1) := by decide +kernel
set_option maxHeartbeats 4000000 in
set_option maxRecDepth 100000 in
theorem kX10_lowerToJoined (l : Launch) (D : va_G) (tc : jTC) (n : Nat) (h_ h_costs h_highs h_lows : Nat) (c_costs : (Nat → Int32)) (c_highs : (Nat → Int64)) (c_lows : (Nat → Int64)) (p1 : Int32) (p2 : Int32) (p3 : Int32) : ctV l D tc yX10_lowerToJoined (Cond.code yX10_lowerToJoined cX10_lowerToJoined 9 none :: jtb) ({ frames := 1, cells := 0, slots := 0, locals := 26 } : Room) [.ref h_, .int p1, .int p2, .int p3] [(h_, .inr (10, [.ref h_costs, .ref h_highs, .ref h_lows])), (h_costs, .inl (tc.1, n, .inl c_costs)), (h_highs, .inl (tc.2.1, n, .inr (.inl c_highs))), (h_lows, .inl (tc.2.1, n, .inr (.inl c_lows)))] (fX10_lowerToJoined n c_costs c_highs c_lows p1 p2 p3) (fun (u : (Nat → Int32) × (Nat → Int64) × (Nat → Int64)) => [(h_, .inr (10, [.ref h_costs, .ref h_highs, .ref h_lows])), (h_costs, .inl (tc.1, n, .inl u.1)), (h_highs, .inl (tc.2.1, n, .inr (.inl u.2.1))), (h_lows, .inl (tc.2.1, n, .inr (.inl u.2.2)))]) := by
  refine ctV_of (lv0 := [(0, .ref h_), (1, .int p1), (2, .int p2), (3, .int p3)]) (by decide +kernel) (Nat.le_of_ble_eq_true rfl) rfl (fun X C => ?_)
  unfold fX10_lowerToJoined
  refine j_aload C d10_lowerToJoined_0 0 rfl ?_
  refine j_get C d10_lowerToJoined_1 fl10_17 0 rfl rfl ?_
  refine j_iload C d10_lowerToJoined_4 2 rfl ?_
  refine j_iald C d10_lowerToJoined_5 1 rfl (fun x1 => ?_)
  refine j_aload C d10_lowerToJoined_6 0 rfl ?_
  refine j_get C d10_lowerToJoined_7 fl10_17 0 rfl rfl ?_
  refine j_iload C d10_lowerToJoined_10 3 rfl ?_
  refine j_iald C d10_lowerToJoined_11 1 rfl (fun x2 => ?_)
  refine j_iadd C d10_lowerToJoined_12 ?_
  refine j_leti (fun x3 => ?_)
  refine j_istore C d10_lowerToJoined_13 (by decide) (lv' := [(4, .int x3), (0, .ref h_), (1, .int p1), (2, .int p2), (3, .int p3)]) rfl ?_
  refine j_iload C d10_lowerToJoined_15 0 rfl ?_
  refine j_ldc C d10_lowerToJoined_17 kc10_28 ?_
  refine j_join 33 (fun v4 => [(h_, .inr (10, [.ref h_costs, .ref h_highs, .ref h_lows])), (h_costs, .inl (tc.1, n, .inl c_costs)), (h_highs, .inl (tc.2.1, n, .inr (.inl c_highs))), (h_lows, .inl (tc.2.1, n, .inr (.inl c_lows)))]) (fun v4 => []) (fun v4 => []) (fun v4 => ?_) (fun k5 hk5 => ?_)
  · exact j_vret C d10_lowerToJoined_33 rfl
  · refine j_icmp_ge C d10_lowerToJoined_19 ?_ ?_
    · exact j_sub [] rfl (hk5 _)
    · refine j_iload C d10_lowerToJoined_22 0 rfl ?_
      refine j_aload C d10_lowerToJoined_24 1 rfl ?_
      refine j_get C d10_lowerToJoined_25 fl10_17 0 rfl rfl ?_
      refine j_iload C d10_lowerToJoined_28 2 rfl ?_
      refine j_iald C d10_lowerToJoined_29 1 rfl (fun x6 => ?_)
      refine j_icmp_le C d10_lowerToJoined_30 ?_ ?_
      · refine j_aload C d10_lowerToJoined_34 1 rfl ?_
        refine j_iload C d10_lowerToJoined_35 3 rfl ?_
        refine j_iload C d10_lowerToJoined_36 4 rfl ?_
        refine j_callVL0 (As := [.int p2, .int p3]) C d10_lowerToJoined_37 mv10_47 (kX10_joinedHigh _ _ tc n h_ h_costs h_highs h_lows c_costs c_highs c_lows p2 p3) ⟨rfl, rfl, Nat.le_of_ble_eq_true rfl, Nat.le_of_ble_eq_true rfl⟩ rfl 0 rfl [0, 1, 2, 3] rfl rfl rfl (Nat.le_of_ble_eq_true rfl) (fun x7 => ?_)
        refine j_lstore C d10_lowerToJoined_40 (by decide) (lv' := [(5, .long x7), (4, .int x3), (0, .ref h_), (1, .int p1), (2, .int p2), (3, .int p3)]) rfl ?_
        refine j_aload C d10_lowerToJoined_42 2 rfl ?_
        refine j_iload C d10_lowerToJoined_43 4 rfl ?_
        refine j_iload C d10_lowerToJoined_44 5 rfl ?_
        refine j_callVL0 (As := [.int p2, .int p3]) C d10_lowerToJoined_45 mv10_51 (kX10_joinedLow _ _ tc n h_ h_costs h_lows (.ref h_highs) c_costs c_lows p2 p3) ⟨rfl, rfl, Nat.le_of_ble_eq_true rfl, Nat.le_of_ble_eq_true rfl⟩ rfl 0 rfl [0, 1, 3] rfl rfl rfl (Nat.le_of_ble_eq_true rfl) (fun x8 => ?_)
        refine j_lstore C d10_lowerToJoined_48 (by decide) (lv' := [(7, .long x8), (5, .long x7), (4, .int x3), (0, .ref h_), (1, .int p1), (2, .int p2), (3, .int p3)]) rfl ?_
        refine j_aload C d10_lowerToJoined_50 3 rfl ?_
        refine j_iload C d10_lowerToJoined_51 4 rfl ?_
        refine j_iload C d10_lowerToJoined_52 2 rfl ?_
        refine j_lload C d10_lowerToJoined_54 1 rfl ?_
        refine j_lload C d10_lowerToJoined_56 0 rfl ?_
        refine j_callVI0 (As := [.int p1, .int x3, .long x7, .long x8]) C d10_lowerToJoined_58 mv10_54 (kX10_isLess _ _ tc n h_ h_costs h_highs h_lows c_costs c_highs c_lows p1 x3 x7 x8) ⟨rfl, rfl, Nat.le_of_ble_eq_true rfl, Nat.le_of_ble_eq_true rfl⟩ rfl 0 rfl [0, 1, 2, 3] rfl rfl rfl (Nat.le_of_ble_eq_true rfl) (fun x9 => ?_)
        refine j_join3 75 (fun v10 v11 v12 => [(h_, .inr (10, [.ref h_costs, .ref h_highs, .ref h_lows])), (h_costs, .inl (tc.1, n, .inl v10)), (h_highs, .inl (tc.2.1, n, .inr (.inl v11))), (h_lows, .inl (tc.2.1, n, .inr (.inl v12)))]) (fun v10 v11 v12 => []) (fun v10 v11 v12 => []) (fun v10 v11 v12 => ?_) (fun k13 hk13 => ?_)
        · exact j_vret C d10_lowerToJoined_75 rfl
        · refine j_if_eq C d10_lowerToJoined_61 ?_ ?_
          · exact j_sub [] rfl (hk13 _ _ _)
          · refine j_aload C d10_lowerToJoined_64 3 rfl ?_
            refine j_iload C d10_lowerToJoined_65 4 rfl ?_
            refine j_iload C d10_lowerToJoined_66 2 rfl ?_
            refine j_lload C d10_lowerToJoined_68 1 rfl ?_
            refine j_lload C d10_lowerToJoined_70 0 rfl ?_
            refine j_callVV3 (As := [.int p1, .int x3, .long x7, .long x8]) C d10_lowerToJoined_72 mv10_37 (kX10_put _ _ tc n h_ h_costs h_highs h_lows c_costs c_highs c_lows p1 x3 x7 x8) ⟨rfl, rfl, Nat.le_of_ble_eq_true rfl, Nat.le_of_ble_eq_true rfl⟩ rfl 0 rfl [0, 1, 2, 3] rfl rfl rfl (Nat.le_of_ble_eq_true rfl) (fun o14 o15 o16 => [(h_, .inr (10, [.ref h_costs, .ref h_highs, .ref h_lows])), (h_costs, .inl (tc.1, n, .inl o14)), (h_highs, .inl (tc.2.1, n, .inr (.inl o15))), (h_lows, .inl (tc.2.1, n, .inr (.inl o16)))]) (fun _ => rfl) (fun _ => rfl) (fun _ _ _ => rfl) (fun o14 o15 o16 => ?_)
            exact j_sub [] rfl (hk13 _ _ _)
      · exact j_sub [] rfl (hk5 _)

theorem d5_extendCover_0 : jdi cX5_extendCover 0 5 2 := Or.inr (by decide +kernel)
theorem d5_extendCover_2 : jds cX5_extendCover 2 6 4 := Or.inr (by decide +kernel)
theorem d5_extendCover_4 : jdi cX5_extendCover 4 6 6 := Or.inr (by decide +kernel)
theorem d5_extendCover_6 : jdi cX5_extendCover 6 4 8 := Or.inr (by decide +kernel)
theorem d5_extendCover_8 : jdb cX5_extendCover 8 (.if_icmp .lt 81) 81 89 11 := by decide +kernel
theorem d5_extendCover_11 : jda cX5_extendCover 11 0 12 := Or.inl ⟨0, by decide +kernel⟩
theorem d5_extendCover_12 : jd cX5_extendCover 12 (.getfield 20) 3 15 := by decide +kernel
theorem d5_extendCover_15 : jdk cX5_extendCover 15 1467 18 := Or.inr (Or.inr ⟨1467, by decide +kernel⟩)
theorem d5_extendCover_18 : jd cX5_extendCover 18 (.invokevirtual 66) 3 21 := by decide +kernel
theorem d5_extendCover_21 : jdi cX5_extendCover 21 2 22 := Or.inl ⟨2, by decide +kernel⟩
theorem d5_extendCover_22 : jds cX5_extendCover 22 7 24 := Or.inr (by decide +kernel)
theorem d5_extendCover_24 : jdi cX5_extendCover 24 7 26 := Or.inr (by decide +kernel)
theorem d5_extendCover_26 : jdi cX5_extendCover 26 6 28 := Or.inr (by decide +kernel)
theorem d5_extendCover_28 : jdb cX5_extendCover 28 (.if_icmp .gt 39) 39 67 31 := by decide +kernel
theorem d5_extendCover_31 : jdi cX5_extendCover 31 7 33 := Or.inr (by decide +kernel)
theorem d5_extendCover_33 : jdi cX5_extendCover 33 3 34 := Or.inl ⟨3, by decide +kernel⟩
theorem d5_extendCover_34 : jdb cX5_extendCover 34 (.if_icmp .gt 33) 33 67 37 := by decide +kernel
theorem d5_extendCover_37 : jda cX5_extendCover 37 0 38 := Or.inl ⟨0, by decide +kernel⟩
theorem d5_extendCover_38 : jd cX5_extendCover 38 (.getfield 20) 3 41 := by decide +kernel
theorem d5_extendCover_41 : jdk cX5_extendCover 41 1467 44 := Or.inr (Or.inr ⟨1467, by decide +kernel⟩)
theorem d5_extendCover_44 : jdk cX5_extendCover 44 1458 47 := Or.inr (Or.inr ⟨1458, by decide +kernel⟩)
theorem d5_extendCover_47 : jdi cX5_extendCover 47 7 49 := Or.inr (by decide +kernel)
theorem d5_extendCover_49 : jd cX5_extendCover 49 (.iadd) 1 50 := by decide +kernel
theorem d5_extendCover_50 : jdi cX5_extendCover 50 7 52 := Or.inr (by decide +kernel)
theorem d5_extendCover_52 : jdi cX5_extendCover 52 6 54 := Or.inr (by decide +kernel)
theorem d5_extendCover_54 : jdi cX5_extendCover 54 1 55 := Or.inl ⟨1, by decide +kernel⟩
theorem d5_extendCover_55 : jd cX5_extendCover 55 (.invokestatic 48) 3 58 := by decide +kernel
theorem d5_extendCover_58 : jd cX5_extendCover 58 (.invokevirtual 106) 3 61 := by decide +kernel
theorem d5_extendCover_61 : jd cX5_extendCover 61 (.iinc 7 1) 3 64 := by decide +kernel
theorem d5_extendCover_64 : jdb cX5_extendCover 64 (.goto (-40)) (-40) 24 67 := by decide +kernel
theorem d5_extendCover_67 : jda cX5_extendCover 67 0 68 := Or.inl ⟨0, by decide +kernel⟩
theorem d5_extendCover_68 : jd cX5_extendCover 68 (.getfield 20) 3 71 := by decide +kernel
theorem d5_extendCover_71 : jdk cX5_extendCover 71 1458 74 := Or.inr (Or.inr ⟨1458, by decide +kernel⟩)
theorem d5_extendCover_74 : jdi cX5_extendCover 74 6 76 := Or.inr (by decide +kernel)
theorem d5_extendCover_76 : jd cX5_extendCover 76 (.iadd) 1 77 := by decide +kernel
theorem d5_extendCover_77 : jdk cX5_extendCover 77 1467 80 := Or.inr (Or.inr ⟨1467, by decide +kernel⟩)
theorem d5_extendCover_80 : jd cX5_extendCover 80 (.invokevirtual 56) 3 83 := by decide +kernel
theorem d5_extendCover_83 : jd cX5_extendCover 83 (.iinc 6 (-1)) 3 86 := by decide +kernel
theorem d5_extendCover_86 : jdb cX5_extendCover 86 (.goto (-82)) (-82) 4 89 := by decide +kernel
theorem d5_extendCover_89 : decode cX5_extendCover 89 = .ok (.return_, 1) := by decide +kernel
set_option maxHeartbeats 4000000 in
set_option maxRecDepth 100000 in
theorem wX5_extendCover_24 {X : jC} {tc : jTC} (C : jx X cX5_extendCover 8 RX5 none tc ({ frames := 2, cells := 0, slots := 0, locals := 54 } : Room)) (h_ h_words h_words_costs h_words_highs h_words_lows : Nat) (g_rules g_input g_weights : Value) (p1 : Int32) (p2 : Int32) (p3 : Int32) (p4 : Int32) (v5 : Int32) (k20 : ((Nat → Int32) → (Nat → Int64) → (Nat → Int64) → Option ((Nat → Int32) × (Nat → Int64) × (Nat → Int64)))) (hk20 : ∀ (v31 : (Nat → Int32)) (v32 : (Nat → Int64)) (v33 : (Nat → Int64)), jo X 8 (0, 0) (jQV X (fun (u : (Nat → Int32) × (Nat → Int64) × (Nat → Int64)) => [(h_, .inr (5, [g_rules, g_input, g_weights, .ref h_words])), (h_words, .inr (10, [.ref h_words_costs, .ref h_words_highs, .ref h_words_lows])), (h_words_costs, .inl (tc.1, 1469, .inl u.1)), (h_words_highs, .inl (tc.2.1, 1469, .inr (.inl u.2.1))), (h_words_lows, .inl (tc.2.1, 1469, .inr (.inl u.2.2)))])) (k20 v31 v32 v33) [(h_, .inr (5, [g_rules, g_input, g_weights, .ref h_words])), (h_words, .inr (10, [.ref h_words_costs, .ref h_words_highs, .ref h_words_lows])), (h_words_costs, .inl (tc.1, 1469, .inl v31)), (h_words_highs, .inl (tc.2.1, 1469, .inr (.inl v32))), (h_words_lows, .inl (tc.2.1, 1469, .inr (.inl v33)))] 67 [(0, .ref h_), (1, .int p1), (2, .int p2), (3, .int p3), (4, .int p4), (6, .int v5)] []) (rc25 : Int32 → (Nat → Int32) → (Nat → Int64) → (Nat → Int64) → Option ((Nat → Int32) × (Nat → Int64) × (Nat → Int64))) (hrc25 : ∀ (v21 : Int32) (v22 : (Nat → Int32)) (v23 : (Nat → Int64)) (v24 : (Nat → Int64)), jo X 8 (0, 0) (jQV X (fun (u : (Nat → Int32) × (Nat → Int64) × (Nat → Int64)) => [(h_, .inr (5, [g_rules, g_input, g_weights, .ref h_words])), (h_words, .inr (10, [.ref h_words_costs, .ref h_words_highs, .ref h_words_lows])), (h_words_costs, .inl (tc.1, 1469, .inl u.1)), (h_words_highs, .inl (tc.2.1, 1469, .inr (.inl u.2.1))), (h_words_lows, .inl (tc.2.1, 1469, .inr (.inl u.2.2)))])) (rc25 v21 v22 v23 v24) [(h_, .inr (5, [g_rules, g_input, g_weights, .ref h_words])), (h_words, .inr (10, [.ref h_words_costs, .ref h_words_highs, .ref h_words_lows])), (h_words_costs, .inl (tc.1, 1469, .inl v22)), (h_words_highs, .inl (tc.2.1, 1469, .inr (.inl v23))), (h_words_lows, .inl (tc.2.1, 1469, .inr (.inl v24)))] 24 [(0, .ref h_), (1, .int p1), (2, .int p2), (3, .int p3), (4, .int p4), (6, .int v5), (7, .int v21)] []) (v21 : Int32) (v22 : (Nat → Int32)) (v23 : (Nat → Int64)) (v24 : (Nat → Int64)) : jo X 8 (0, 0) (jQV X (fun (u : (Nat → Int32) × (Nat → Int64) × (Nat → Int64)) => [(h_, .inr (5, [g_rules, g_input, g_weights, .ref h_words])), (h_words, .inr (10, [.ref h_words_costs, .ref h_words_highs, .ref h_words_lows])), (h_words_costs, .inl (tc.1, 1469, .inl u.1)), (h_words_highs, .inl (tc.2.1, 1469, .inr (.inl u.2.1))), (h_words_lows, .inl (tc.2.1, 1469, .inr (.inl u.2.2)))])) (bX5_extendCover_24 p1 p3 v5 k20 rc25 v21 v22 v23 v24) [(h_, .inr (5, [g_rules, g_input, g_weights, .ref h_words])), (h_words, .inr (10, [.ref h_words_costs, .ref h_words_highs, .ref h_words_lows])), (h_words_costs, .inl (tc.1, 1469, .inl v22)), (h_words_highs, .inl (tc.2.1, 1469, .inr (.inl v23))), (h_words_lows, .inl (tc.2.1, 1469, .inr (.inl v24)))] 24 [(0, .ref h_), (1, .int p1), (2, .int p2), (3, .int p3), (4, .int p4), (6, .int v5), (7, .int v21)] [] := by
  unfold bX5_extendCover_24
  refine j_iload C d5_extendCover_24 6 rfl ?_
  refine j_iload C d5_extendCover_26 5 rfl ?_
  refine j_icmp_gt C d5_extendCover_28 ?_ ?_
  · exact j_sub [0, 1, 2, 3, 4, 5] rfl (hk20 _ _ _)
  · refine j_iload C d5_extendCover_31 6 rfl ?_
    refine j_iload C d5_extendCover_33 3 rfl ?_
    refine j_icmp_gt C d5_extendCover_34 ?_ ?_
    · exact j_sub [0, 1, 2, 3, 4, 5] rfl (hk20 _ _ _)
    · refine j_aload C d5_extendCover_37 0 rfl ?_
      refine j_get C d5_extendCover_38 fl5_20 0 rfl rfl ?_
      refine j_const C d5_extendCover_41 ?_
      refine j_const C d5_extendCover_44 ?_
      refine j_iload C d5_extendCover_47 6 rfl ?_
      refine j_iadd C d5_extendCover_49 ?_
      refine j_iload C d5_extendCover_50 6 rfl ?_
      refine j_iload C d5_extendCover_52 5 rfl ?_
      refine j_iload C d5_extendCover_54 1 rfl ?_
      refine j_callSI0 (As := [.int v21, .int v5, .int p1]) C d5_extendCover_55 ms5_48 (kX5_wordOf _ _ tc v21 v5 p1) ⟨rfl, rfl, Nat.le_of_ble_eq_true rfl, Nat.le_of_ble_eq_true rfl⟩ rfl [] rfl rfl rfl (Nat.le_of_ble_eq_true rfl) (fun x26 => ?_)
      refine j_callVV3 (As := [.int 1467, .int ((1458 : Int32) + v21), .int x26]) C d5_extendCover_58 mv5_106 (kX10_lowerToJoined _ _ tc 1469 h_words h_words_costs h_words_highs h_words_lows v22 v23 v24 1467 ((1458 : Int32) + v21) x26) ⟨rfl, rfl, Nat.le_of_ble_eq_true rfl, Nat.le_of_ble_eq_true rfl⟩ rfl 1 rfl [1, 2, 3, 4] rfl rfl rfl (Nat.le_of_ble_eq_true rfl) (fun o27 o28 o29 => [(h_, .inr (5, [g_rules, g_input, g_weights, .ref h_words])), (h_words, .inr (10, [.ref h_words_costs, .ref h_words_highs, .ref h_words_lows])), (h_words_costs, .inl (tc.1, 1469, .inl o27)), (h_words_highs, .inl (tc.2.1, 1469, .inr (.inl o28))), (h_words_lows, .inl (tc.2.1, 1469, .inr (.inl o29)))]) (fun _ => rfl) (fun _ => rfl) (fun _ _ _ => rfl) (fun o27 o28 o29 => ?_)
      refine j_iincN C (fun x30 => [(7, .int x30), (0, .ref h_), (1, .int p1), (2, .int p2), (3, .int p3), (4, .int p4), (6, .int v5)]) d5_extendCover_61 6 rfl (by decide +kernel) (by decide) (fun _ => rfl) (fun x30 => ?_)
      refine j_goto C d5_extendCover_64 ?_
      exact j_sub [1, 2, 3, 4, 5, 6, 0] rfl (hrc25 _ _ _ _)

set_option maxHeartbeats 4000000 in
set_option maxRecDepth 100000 in
theorem wX5_extendCover_4 {X : jC} {tc : jTC} (C : jx X cX5_extendCover 8 RX5 none tc ({ frames := 2, cells := 0, slots := 0, locals := 54 } : Room)) (N : Nat) (h_ h_words h_words_costs h_words_highs h_words_lows : Nat) (g_rules g_input g_weights : Value) (p1 : Int32) (p2 : Int32) (p3 : Int32) (p4 : Int32) (k4 : ((Nat → Int32) → (Nat → Int64) → (Nat → Int64) → Option ((Nat → Int32) × (Nat → Int64) × (Nat → Int64)))) (hk4 : ∀ (v34 : (Nat → Int32)) (v35 : (Nat → Int64)) (v36 : (Nat → Int64)), jo X 8 (0, 0) (jQV X (fun (u : (Nat → Int32) × (Nat → Int64) × (Nat → Int64)) => [(h_, .inr (5, [g_rules, g_input, g_weights, .ref h_words])), (h_words, .inr (10, [.ref h_words_costs, .ref h_words_highs, .ref h_words_lows])), (h_words_costs, .inl (tc.1, 1469, .inl u.1)), (h_words_highs, .inl (tc.2.1, 1469, .inr (.inl u.2.1))), (h_words_lows, .inl (tc.2.1, 1469, .inr (.inl u.2.2)))])) (k4 v34 v35 v36) [(h_, .inr (5, [g_rules, g_input, g_weights, .ref h_words])), (h_words, .inr (10, [.ref h_words_costs, .ref h_words_highs, .ref h_words_lows])), (h_words_costs, .inl (tc.1, 1469, .inl v34)), (h_words_highs, .inl (tc.2.1, 1469, .inr (.inl v35))), (h_words_lows, .inl (tc.2.1, 1469, .inr (.inl v36)))] 89 [] []) (rc9 : Int32 → (Nat → Int32) → (Nat → Int64) → (Nat → Int64) → Option ((Nat → Int32) × (Nat → Int64) × (Nat → Int64))) (hrc9 : ∀ (v5 : Int32) (v6 : (Nat → Int32)) (v7 : (Nat → Int64)) (v8 : (Nat → Int64)), jo X 8 (0, 0) (jQV X (fun (u : (Nat → Int32) × (Nat → Int64) × (Nat → Int64)) => [(h_, .inr (5, [g_rules, g_input, g_weights, .ref h_words])), (h_words, .inr (10, [.ref h_words_costs, .ref h_words_highs, .ref h_words_lows])), (h_words_costs, .inl (tc.1, 1469, .inl u.1)), (h_words_highs, .inl (tc.2.1, 1469, .inr (.inl u.2.1))), (h_words_lows, .inl (tc.2.1, 1469, .inr (.inl u.2.2)))])) (rc9 v5 v6 v7 v8) [(h_, .inr (5, [g_rules, g_input, g_weights, .ref h_words])), (h_words, .inr (10, [.ref h_words_costs, .ref h_words_highs, .ref h_words_lows])), (h_words_costs, .inl (tc.1, 1469, .inl v6)), (h_words_highs, .inl (tc.2.1, 1469, .inr (.inl v7))), (h_words_lows, .inl (tc.2.1, 1469, .inr (.inl v8)))] 4 [(0, .ref h_), (1, .int p1), (2, .int p2), (3, .int p3), (4, .int p4), (6, .int v5)] []) (v5 : Int32) (v6 : (Nat → Int32)) (v7 : (Nat → Int64)) (v8 : (Nat → Int64)) : jo X 8 (0, 0) (jQV X (fun (u : (Nat → Int32) × (Nat → Int64) × (Nat → Int64)) => [(h_, .inr (5, [g_rules, g_input, g_weights, .ref h_words])), (h_words, .inr (10, [.ref h_words_costs, .ref h_words_highs, .ref h_words_lows])), (h_words_costs, .inl (tc.1, 1469, .inl u.1)), (h_words_highs, .inl (tc.2.1, 1469, .inr (.inl u.2.1))), (h_words_lows, .inl (tc.2.1, 1469, .inr (.inl u.2.2)))])) (bX5_extendCover_4 N p1 p2 p3 p4 k4 rc9 v5 v6 v7 v8) [(h_, .inr (5, [g_rules, g_input, g_weights, .ref h_words])), (h_words, .inr (10, [.ref h_words_costs, .ref h_words_highs, .ref h_words_lows])), (h_words_costs, .inl (tc.1, 1469, .inl v6)), (h_words_highs, .inl (tc.2.1, 1469, .inr (.inl v7))), (h_words_lows, .inl (tc.2.1, 1469, .inr (.inl v8)))] 4 [(0, .ref h_), (1, .int p1), (2, .int p2), (3, .int p3), (4, .int p4), (6, .int v5)] [] := by
  unfold bX5_extendCover_4
  refine j_iload C d5_extendCover_4 5 rfl ?_
  refine j_iload C d5_extendCover_6 4 rfl ?_
  refine j_icmp_lt C d5_extendCover_8 ?_ ?_
  · exact j_sub [] rfl (hk4 _ _ _)
  · refine j_aload C d5_extendCover_11 0 rfl ?_
    refine j_get C d5_extendCover_12 fl5_20 0 rfl rfl ?_
    refine j_const C d5_extendCover_15 ?_
    refine j_callVV3 (As := [.int 1467]) C d5_extendCover_18 mv5_66 (kX10_putNone _ _ tc 1469 h_words h_words_costs h_words_highs h_words_lows v6 v7 v8 1467) ⟨rfl, rfl, Nat.le_of_ble_eq_true rfl, Nat.le_of_ble_eq_true rfl⟩ rfl 1 rfl [1, 2, 3, 4] rfl rfl rfl (Nat.le_of_ble_eq_true rfl) (fun o10 o11 o12 => [(h_, .inr (5, [g_rules, g_input, g_weights, .ref h_words])), (h_words, .inr (10, [.ref h_words_costs, .ref h_words_highs, .ref h_words_lows])), (h_words_costs, .inl (tc.1, 1469, .inl o10)), (h_words_highs, .inl (tc.2.1, 1469, .inr (.inl o11))), (h_words_lows, .inl (tc.2.1, 1469, .inr (.inl o12)))]) (fun _ => rfl) (fun _ => rfl) (fun _ _ _ => rfl) (fun o10 o11 o12 => ?_)
    refine j_iload C d5_extendCover_21 2 rfl ?_
    refine j_istore C d5_extendCover_22 (by decide) (lv' := [(7, .int p2), (0, .ref h_), (1, .int p1), (2, .int p2), (3, .int p3), (4, .int p4), (6, .int v5)]) rfl ?_
    refine j_join3 67 (fun v13 v14 v15 => [(h_, .inr (5, [g_rules, g_input, g_weights, .ref h_words])), (h_words, .inr (10, [.ref h_words_costs, .ref h_words_highs, .ref h_words_lows])), (h_words_costs, .inl (tc.1, 1469, .inl v13)), (h_words_highs, .inl (tc.2.1, 1469, .inr (.inl v14))), (h_words_lows, .inl (tc.2.1, 1469, .inr (.inl v15)))]) (fun v13 v14 v15 => [(0, .ref h_), (1, .int p1), (2, .int p2), (3, .int p3), (4, .int p4), (6, .int v5)]) (fun v13 v14 v15 => []) (fun v13 v14 v15 => ?_) (fun k20 hk20 => ?_)
    · refine j_aload C d5_extendCover_67 0 rfl ?_
      refine j_get C d5_extendCover_68 fl5_20 0 rfl rfl ?_
      refine j_const C d5_extendCover_71 ?_
      refine j_iload C d5_extendCover_74 5 rfl ?_
      refine j_iadd C d5_extendCover_76 ?_
      refine j_const C d5_extendCover_77 ?_
      refine j_callVV3 (As := [.int ((1458 : Int32) + v5), .int 1467]) C d5_extendCover_80 mv5_56 (kX10_putCopy _ _ tc 1469 h_words h_words_costs h_words_highs h_words_lows v13 v14 v15 ((1458 : Int32) + v5) 1467) ⟨rfl, rfl, Nat.le_of_ble_eq_true rfl, Nat.le_of_ble_eq_true rfl⟩ rfl 1 rfl [1, 2, 3, 4] rfl rfl rfl (Nat.le_of_ble_eq_true rfl) (fun o16 o17 o18 => [(h_, .inr (5, [g_rules, g_input, g_weights, .ref h_words])), (h_words, .inr (10, [.ref h_words_costs, .ref h_words_highs, .ref h_words_lows])), (h_words_costs, .inl (tc.1, 1469, .inl o16)), (h_words_highs, .inl (tc.2.1, 1469, .inr (.inl o17))), (h_words_lows, .inl (tc.2.1, 1469, .inr (.inl o18)))]) (fun _ => rfl) (fun _ => rfl) (fun _ _ _ => rfl) (fun o16 o17 o18 => ?_)
      refine j_iincN C (fun x19 => [(6, .int x19), (0, .ref h_), (1, .int p1), (2, .int p2), (3, .int p3), (4, .int p4)]) d5_extendCover_83 5 rfl (by decide +kernel) (by decide) (fun _ => rfl) (fun x19 => ?_)
      refine j_goto C d5_extendCover_86 ?_
      exact j_sub [1, 2, 3, 4, 5, 0] rfl (hrc9 _ _ _ _)
    · exact j_sub [1, 2, 3, 4, 5, 6, 0] rfl (j_loop4 (fun v21 v22 v23 v24 => [(h_, .inr (5, [g_rules, g_input, g_weights, .ref h_words])), (h_words, .inr (10, [.ref h_words_costs, .ref h_words_highs, .ref h_words_lows])), (h_words_costs, .inl (tc.1, 1469, .inl v22)), (h_words_highs, .inl (tc.2.1, 1469, .inr (.inl v23))), (h_words_lows, .inl (tc.2.1, 1469, .inr (.inl v24)))]) (fun v21 v22 v23 v24 => [(0, .ref h_), (1, .int p1), (2, .int p2), (3, .int p3), (4, .int p4), (6, .int v5), (7, .int v21)]) (fun rc25 hrc25 v21 v22 v23 v24 => wX5_extendCover_24 C h_ h_words h_words_costs h_words_highs h_words_lows g_rules g_input g_weights p1 p2 p3 p4 v5 k20 hk20 rc25 hrc25 v21 v22 v23 v24) N _ _ _ _)

set_option maxHeartbeats 4000000 in
set_option maxRecDepth 100000 in
theorem kX5_extendCover (l : Launch) (D : va_G) (tc : jTC) (N : Nat) (h_ h_words h_words_costs h_words_highs h_words_lows : Nat) (g_rules g_input g_weights : Value) (c_words_costs : (Nat → Int32)) (c_words_highs : (Nat → Int64)) (c_words_lows : (Nat → Int64)) (p1 : Int32) (p2 : Int32) (p3 : Int32) (p4 : Int32) (p5 : Int32) : ctV l D tc yX5_extendCover (Cond.code yX5_extendCover cX5_extendCover 8 none :: jtb) ({ frames := 2, cells := 0, slots := 0, locals := 54 } : Room) [.ref h_, .int p1, .int p2, .int p3, .int p4, .int p5] [(h_, .inr (5, [g_rules, g_input, g_weights, .ref h_words])), (h_words, .inr (10, [.ref h_words_costs, .ref h_words_highs, .ref h_words_lows])), (h_words_costs, .inl (tc.1, 1469, .inl c_words_costs)), (h_words_highs, .inl (tc.2.1, 1469, .inr (.inl c_words_highs))), (h_words_lows, .inl (tc.2.1, 1469, .inr (.inl c_words_lows)))] (fX5_extendCover N c_words_costs c_words_highs c_words_lows p1 p2 p3 p4 p5) (fun (u : (Nat → Int32) × (Nat → Int64) × (Nat → Int64)) => [(h_, .inr (5, [g_rules, g_input, g_weights, .ref h_words])), (h_words, .inr (10, [.ref h_words_costs, .ref h_words_highs, .ref h_words_lows])), (h_words_costs, .inl (tc.1, 1469, .inl u.1)), (h_words_highs, .inl (tc.2.1, 1469, .inr (.inl u.2.1))), (h_words_lows, .inl (tc.2.1, 1469, .inr (.inl u.2.2)))]) := by
  refine ctV_of (lv0 := [(0, .ref h_), (1, .int p1), (2, .int p2), (3, .int p3), (4, .int p4), (5, .int p5)]) (by decide +kernel) (Nat.le_of_ble_eq_true rfl) rfl (fun X C => ?_)
  unfold fX5_extendCover
  refine j_iload C d5_extendCover_0 5 rfl ?_
  refine j_istore C d5_extendCover_2 (by decide) (lv' := [(6, .int p5), (0, .ref h_), (1, .int p1), (2, .int p2), (3, .int p3), (4, .int p4), (5, .int p5)]) rfl ?_
  refine j_join3 89 (fun v1 v2 v3 => [(h_, .inr (5, [g_rules, g_input, g_weights, .ref h_words])), (h_words, .inr (10, [.ref h_words_costs, .ref h_words_highs, .ref h_words_lows])), (h_words_costs, .inl (tc.1, 1469, .inl v1)), (h_words_highs, .inl (tc.2.1, 1469, .inr (.inl v2))), (h_words_lows, .inl (tc.2.1, 1469, .inr (.inl v3)))]) (fun v1 v2 v3 => []) (fun v1 v2 v3 => []) (fun v1 v2 v3 => ?_) (fun k4 hk4 => ?_)
  · exact j_vret C d5_extendCover_89 rfl
  · exact j_sub [1, 2, 3, 4, 5, 0] rfl (j_loop4 (fun v5 v6 v7 v8 => [(h_, .inr (5, [g_rules, g_input, g_weights, .ref h_words])), (h_words, .inr (10, [.ref h_words_costs, .ref h_words_highs, .ref h_words_lows])), (h_words_costs, .inl (tc.1, 1469, .inl v6)), (h_words_highs, .inl (tc.2.1, 1469, .inr (.inl v7))), (h_words_lows, .inl (tc.2.1, 1469, .inr (.inl v8)))]) (fun v5 v6 v7 v8 => [(0, .ref h_), (1, .int p1), (2, .int p2), (3, .int p3), (4, .int p4), (6, .int v5)]) (fun rc9 hrc9 v5 v6 v7 v8 => wX5_extendCover_4 C N h_ h_words h_words_costs h_words_highs h_words_lows g_rules g_input g_weights p1 p2 p3 p4 k4 hk4 rc9 hrc9 v5 v6 v7 v8) N _ _ _ _)

theorem d5_lowerBy_0 : jdi cX5_lowerBy 0 2 1 := Or.inl ⟨2, by decide +kernel⟩
theorem d5_lowerBy_1 : jds cX5_lowerBy 1 4 3 := Or.inr (by decide +kernel)
theorem d5_lowerBy_3 : jdi cX5_lowerBy 3 4 5 := Or.inr (by decide +kernel)
theorem d5_lowerBy_5 : jdi cX5_lowerBy 5 3 6 := Or.inl ⟨3, by decide +kernel⟩
theorem d5_lowerBy_6 : jdb cX5_lowerBy 6 (.if_icmp .gt 22) 22 28 9 := by decide +kernel
theorem d5_lowerBy_9 : jda cX5_lowerBy 9 0 10 := Or.inl ⟨0, by decide +kernel⟩
theorem d5_lowerBy_10 : jd cX5_lowerBy 10 (.getfield 20) 3 13 := by decide +kernel
theorem d5_lowerBy_13 : jdk cX5_lowerBy 13 1458 16 := Or.inr (Or.inr ⟨1458, by decide +kernel⟩)
theorem d5_lowerBy_16 : jdi cX5_lowerBy 16 4 18 := Or.inr (by decide +kernel)
theorem d5_lowerBy_18 : jd cX5_lowerBy 18 (.iadd) 1 19 := by decide +kernel
theorem d5_lowerBy_19 : jd cX5_lowerBy 19 (.invokevirtual 66) 3 22 := by decide +kernel
theorem d5_lowerBy_22 : jd cX5_lowerBy 22 (.iinc 4 1) 3 25 := by decide +kernel
theorem d5_lowerBy_25 : jdb cX5_lowerBy 25 (.goto (-22)) (-22) 3 28 := by decide +kernel
theorem d5_lowerBy_28 : jda cX5_lowerBy 28 0 29 := Or.inl ⟨0, by decide +kernel⟩
theorem d5_lowerBy_29 : jd cX5_lowerBy 29 (.getfield 20) 3 32 := by decide +kernel
theorem d5_lowerBy_32 : jdk cX5_lowerBy 32 1458 35 := Or.inr (Or.inr ⟨1458, by decide +kernel⟩)
theorem d5_lowerBy_35 : jdi cX5_lowerBy 35 2 36 := Or.inl ⟨2, by decide +kernel⟩
theorem d5_lowerBy_36 : jd cX5_lowerBy 36 (.iadd) 1 37 := by decide +kernel
theorem d5_lowerBy_37 : jd cX5_lowerBy 37 (.invokevirtual 88) 3 40 := by decide +kernel
theorem d5_lowerBy_40 : jdi cX5_lowerBy 40 1 41 := Or.inl ⟨1, by decide +kernel⟩
theorem d5_lowerBy_41 : jd cX5_lowerBy 41 (.invokestatic 91) 3 44 := by decide +kernel
theorem d5_lowerBy_44 : jdk cX5_lowerBy 44 1 45 := Or.inl ⟨1, by decide +kernel⟩
theorem d5_lowerBy_45 : jd cX5_lowerBy 45 (.isub) 1 46 := by decide +kernel
theorem d5_lowerBy_46 : jds cX5_lowerBy 46 4 48 := Or.inr (by decide +kernel)
theorem d5_lowerBy_48 : jdk cX5_lowerBy 48 0 49 := Or.inl ⟨0, by decide +kernel⟩
theorem d5_lowerBy_49 : jds cX5_lowerBy 49 5 51 := Or.inr (by decide +kernel)
theorem d5_lowerBy_51 : jdi cX5_lowerBy 51 5 53 := Or.inr (by decide +kernel)
theorem d5_lowerBy_53 : jdi cX5_lowerBy 53 4 55 := Or.inr (by decide +kernel)
theorem d5_lowerBy_55 : jdb cX5_lowerBy 55 (.if_icmp .gt 43) 43 98 58 := by decide +kernel
theorem d5_lowerBy_58 : jda cX5_lowerBy 58 0 59 := Or.inl ⟨0, by decide +kernel⟩
theorem d5_lowerBy_59 : jdi cX5_lowerBy 59 1 60 := Or.inl ⟨1, by decide +kernel⟩
theorem d5_lowerBy_60 : jdi cX5_lowerBy 60 5 62 := Or.inr (by decide +kernel)
theorem d5_lowerBy_62 : jd cX5_lowerBy 62 (.invokestatic 92) 3 65 := by decide +kernel
theorem d5_lowerBy_65 : jdi cX5_lowerBy 65 2 66 := Or.inl ⟨2, by decide +kernel⟩
theorem d5_lowerBy_66 : jdi cX5_lowerBy 66 5 68 := Or.inr (by decide +kernel)
theorem d5_lowerBy_68 : jdb cX5_lowerBy 68 (.ifCond .ne 7) 7 75 71 := by decide +kernel
theorem d5_lowerBy_71 : jdi cX5_lowerBy 71 2 72 := Or.inl ⟨2, by decide +kernel⟩
theorem d5_lowerBy_72 : jdb cX5_lowerBy 72 (.goto 4) 4 76 75 := by decide +kernel
theorem d5_lowerBy_75 : jdi cX5_lowerBy 75 3 76 := Or.inl ⟨3, by decide +kernel⟩
theorem d5_lowerBy_76 : jdi cX5_lowerBy 76 5 78 := Or.inr (by decide +kernel)
theorem d5_lowerBy_78 : jdi cX5_lowerBy 78 4 80 := Or.inr (by decide +kernel)
theorem d5_lowerBy_80 : jdb cX5_lowerBy 80 (.if_icmp .ne 7) 7 87 83 := by decide +kernel
theorem d5_lowerBy_83 : jdi cX5_lowerBy 83 3 84 := Or.inl ⟨3, by decide +kernel⟩
theorem d5_lowerBy_84 : jdb cX5_lowerBy 84 (.goto 4) 4 88 87 := by decide +kernel
theorem d5_lowerBy_87 : jdi cX5_lowerBy 87 2 88 := Or.inl ⟨2, by decide +kernel⟩
theorem d5_lowerBy_88 : jdi cX5_lowerBy 88 3 89 := Or.inl ⟨3, by decide +kernel⟩
theorem d5_lowerBy_89 : jd cX5_lowerBy 89 (.invokevirtual 95) 3 92 := by decide +kernel
theorem d5_lowerBy_92 : jd cX5_lowerBy 92 (.iinc 5 1) 3 95 := by decide +kernel
theorem d5_lowerBy_95 : jdb cX5_lowerBy 95 (.goto (-44)) (-44) 51 98 := by decide +kernel
theorem d5_lowerBy_98 : jda cX5_lowerBy 98 0 99 := Or.inl ⟨0, by decide +kernel⟩
theorem d5_lowerBy_99 : jd cX5_lowerBy 99 (.getfield 20) 3 102 := by decide +kernel
theorem d5_lowerBy_102 : jdi cX5_lowerBy 102 2 103 := Or.inl ⟨2, by decide +kernel⟩
theorem d5_lowerBy_103 : jdi cX5_lowerBy 103 3 104 := Or.inl ⟨3, by decide +kernel⟩
theorem d5_lowerBy_104 : jdk cX5_lowerBy 104 10 106 := Or.inr (Or.inl ⟨10, by decide +kernel⟩)
theorem d5_lowerBy_106 : jdi cX5_lowerBy 106 1 107 := Or.inl ⟨1, by decide +kernel⟩
theorem d5_lowerBy_107 : jd cX5_lowerBy 107 (.invokestatic 99) 3 110 := by decide +kernel
theorem d5_lowerBy_110 : jd cX5_lowerBy 110 (.iadd) 1 111 := by decide +kernel
theorem d5_lowerBy_111 : jd cX5_lowerBy 111 (.invokestatic 48) 3 114 := by decide +kernel
theorem d5_lowerBy_114 : jdk cX5_lowerBy 114 1458 117 := Or.inr (Or.inr ⟨1458, by decide +kernel⟩)
theorem d5_lowerBy_117 : jdi cX5_lowerBy 117 3 118 := Or.inl ⟨3, by decide +kernel⟩
theorem d5_lowerBy_118 : jd cX5_lowerBy 118 (.iadd) 1 119 := by decide +kernel
theorem d5_lowerBy_119 : jd cX5_lowerBy 119 (.invokevirtual 102) 3 122 := by decide +kernel
theorem d5_lowerBy_122 : decode cX5_lowerBy 122 = .ok (.ireturn, 1) := by decide +kernel
set_option maxHeartbeats 4000000 in
set_option maxRecDepth 100000 in
theorem wX5_lowerBy_51 {X : jC} {tc : jTC} (C : jx X cX5_lowerBy 6 RX5 (some .boolean) tc ({ frames := 3, cells := 0, slots := 0, locals := 81 } : Room)) (N : Nat) (h_ h_words h_words_costs h_words_highs h_words_lows : Nat) (g_rules g_input g_weights : Value) (p1 : Int32) (p2 : Int32) (p3 : Int32) (x8 : Int32) (k18 : ((Nat → Int32) → (Nat → Int64) → (Nat → Int64) → Option (Int32 × (Nat → Int32) × (Nat → Int64) × (Nat → Int64)))) (hk18 : ∀ (v33 : (Nat → Int32)) (v34 : (Nat → Int64)) (v35 : (Nat → Int64)), jo X 6 (0, 0) (jQI X (fun (u : (Nat → Int32) × (Nat → Int64) × (Nat → Int64)) => [(h_, .inr (5, [g_rules, g_input, g_weights, .ref h_words])), (h_words, .inr (10, [.ref h_words_costs, .ref h_words_highs, .ref h_words_lows])), (h_words_costs, .inl (tc.1, 1469, .inl u.1)), (h_words_highs, .inl (tc.2.1, 1469, .inr (.inl u.2.1))), (h_words_lows, .inl (tc.2.1, 1469, .inr (.inl u.2.2)))])) (k18 v33 v34 v35) [(h_, .inr (5, [g_rules, g_input, g_weights, .ref h_words])), (h_words, .inr (10, [.ref h_words_costs, .ref h_words_highs, .ref h_words_lows])), (h_words_costs, .inl (tc.1, 1469, .inl v33)), (h_words_highs, .inl (tc.2.1, 1469, .inr (.inl v34))), (h_words_lows, .inl (tc.2.1, 1469, .inr (.inl v35)))] 98 [(0, .ref h_), (1, .int p1), (2, .int p2), (3, .int p3)] []) (rc23 : Int32 → (Nat → Int32) → (Nat → Int64) → (Nat → Int64) → Option (Int32 × (Nat → Int32) × (Nat → Int64) × (Nat → Int64))) (hrc23 : ∀ (v19 : Int32) (v20 : (Nat → Int32)) (v21 : (Nat → Int64)) (v22 : (Nat → Int64)), jo X 6 (0, 0) (jQI X (fun (u : (Nat → Int32) × (Nat → Int64) × (Nat → Int64)) => [(h_, .inr (5, [g_rules, g_input, g_weights, .ref h_words])), (h_words, .inr (10, [.ref h_words_costs, .ref h_words_highs, .ref h_words_lows])), (h_words_costs, .inl (tc.1, 1469, .inl u.1)), (h_words_highs, .inl (tc.2.1, 1469, .inr (.inl u.2.1))), (h_words_lows, .inl (tc.2.1, 1469, .inr (.inl u.2.2)))])) (rc23 v19 v20 v21 v22) [(h_, .inr (5, [g_rules, g_input, g_weights, .ref h_words])), (h_words, .inr (10, [.ref h_words_costs, .ref h_words_highs, .ref h_words_lows])), (h_words_costs, .inl (tc.1, 1469, .inl v20)), (h_words_highs, .inl (tc.2.1, 1469, .inr (.inl v21))), (h_words_lows, .inl (tc.2.1, 1469, .inr (.inl v22)))] 51 [(0, .ref h_), (1, .int p1), (2, .int p2), (3, .int p3), (4, .int x8), (5, .int v19)] []) (v19 : Int32) (v20 : (Nat → Int32)) (v21 : (Nat → Int64)) (v22 : (Nat → Int64)) : jo X 6 (0, 0) (jQI X (fun (u : (Nat → Int32) × (Nat → Int64) × (Nat → Int64)) => [(h_, .inr (5, [g_rules, g_input, g_weights, .ref h_words])), (h_words, .inr (10, [.ref h_words_costs, .ref h_words_highs, .ref h_words_lows])), (h_words_costs, .inl (tc.1, 1469, .inl u.1)), (h_words_highs, .inl (tc.2.1, 1469, .inr (.inl u.2.1))), (h_words_lows, .inl (tc.2.1, 1469, .inr (.inl u.2.2)))])) (bX5_lowerBy_51 N p1 p2 p3 x8 k18 rc23 v19 v20 v21 v22) [(h_, .inr (5, [g_rules, g_input, g_weights, .ref h_words])), (h_words, .inr (10, [.ref h_words_costs, .ref h_words_highs, .ref h_words_lows])), (h_words_costs, .inl (tc.1, 1469, .inl v20)), (h_words_highs, .inl (tc.2.1, 1469, .inr (.inl v21))), (h_words_lows, .inl (tc.2.1, 1469, .inr (.inl v22)))] 51 [(0, .ref h_), (1, .int p1), (2, .int p2), (3, .int p3), (4, .int x8), (5, .int v19)] [] := by
  unfold bX5_lowerBy_51
  refine j_iload C d5_lowerBy_51 5 rfl ?_
  refine j_iload C d5_lowerBy_53 4 rfl ?_
  refine j_icmp_gt C d5_lowerBy_55 ?_ ?_
  · exact j_sub [0, 1, 2, 3] rfl (hk18 _ _ _)
  · refine j_aload C d5_lowerBy_58 0 rfl ?_
    refine j_iload C d5_lowerBy_59 1 rfl ?_
    refine j_iload C d5_lowerBy_60 5 rfl ?_
    refine j_callSI0 (As := [.int p1, .int v19]) C d5_lowerBy_62 ms5_92 (kX6_symbolOf _ _ tc p1 v19) ⟨rfl, rfl, Nat.le_of_ble_eq_true rfl, Nat.le_of_ble_eq_true rfl⟩ rfl [] rfl rfl rfl (Nat.le_of_ble_eq_true rfl) (fun x24 => ?_)
    refine j_iload C d5_lowerBy_65 2 rfl ?_
    refine j_iload C d5_lowerBy_66 5 rfl ?_
    refine j_join 76 (fun v25 => [(h_, .inr (5, [g_rules, g_input, g_weights, .ref h_words])), (h_words, .inr (10, [.ref h_words_costs, .ref h_words_highs, .ref h_words_lows])), (h_words_costs, .inl (tc.1, 1469, .inl v20)), (h_words_highs, .inl (tc.2.1, 1469, .inr (.inl v21))), (h_words_lows, .inl (tc.2.1, 1469, .inr (.inl v22)))]) (fun v25 => [(0, .ref h_), (1, .int p1), (2, .int p2), (3, .int p3), (4, .int x8), (5, .int v19)]) (fun v25 => [.int v25, .int p2, .int x24, .ref h_]) (fun v25 => ?_) (fun k32 hk32 => ?_)
    · refine j_iload C d5_lowerBy_76 5 rfl ?_
      refine j_iload C d5_lowerBy_78 4 rfl ?_
      refine j_join 88 (fun v26 => [(h_, .inr (5, [g_rules, g_input, g_weights, .ref h_words])), (h_words, .inr (10, [.ref h_words_costs, .ref h_words_highs, .ref h_words_lows])), (h_words_costs, .inl (tc.1, 1469, .inl v20)), (h_words_highs, .inl (tc.2.1, 1469, .inr (.inl v21))), (h_words_lows, .inl (tc.2.1, 1469, .inr (.inl v22)))]) (fun v26 => [(0, .ref h_), (1, .int p1), (2, .int p2), (3, .int p3), (4, .int x8), (5, .int v19)]) (fun v26 => [.int v26, .int v25, .int p2, .int x24, .ref h_]) (fun v26 => ?_) (fun k31 hk31 => ?_)
      · refine j_iload C d5_lowerBy_88 3 rfl ?_
        refine j_callVV3 (As := [.int x24, .int p2, .int v25, .int v26, .int p3]) C d5_lowerBy_89 mv5_95 (kX5_extendCover _ _ tc N h_ h_words h_words_costs h_words_highs h_words_lows g_rules g_input g_weights v20 v21 v22 x24 p2 v25 v26 p3) ⟨rfl, rfl, Nat.le_of_ble_eq_true rfl, Nat.le_of_ble_eq_true rfl⟩ rfl 0 rfl [0, 1, 2, 3, 4] rfl rfl rfl (Nat.le_of_ble_eq_true rfl) (fun o27 o28 o29 => [(h_, .inr (5, [g_rules, g_input, g_weights, .ref h_words])), (h_words, .inr (10, [.ref h_words_costs, .ref h_words_highs, .ref h_words_lows])), (h_words_costs, .inl (tc.1, 1469, .inl o27)), (h_words_highs, .inl (tc.2.1, 1469, .inr (.inl o28))), (h_words_lows, .inl (tc.2.1, 1469, .inr (.inl o29)))]) (fun _ => rfl) (fun _ => rfl) (fun _ _ _ => rfl) (fun o27 o28 o29 => ?_)
        refine j_iincN C (fun x30 => [(5, .int x30), (0, .ref h_), (1, .int p1), (2, .int p2), (3, .int p3), (4, .int x8)]) d5_lowerBy_92 5 rfl (by decide +kernel) (by decide) (fun _ => rfl) (fun x30 => ?_)
        refine j_goto C d5_lowerBy_95 ?_
        exact j_sub [1, 2, 3, 4, 5, 0] rfl (hrc23 _ _ _ _)
      · refine j_icmp_ne C d5_lowerBy_80 ?_ ?_
        · refine j_iload C d5_lowerBy_87 2 rfl ?_
          exact hk31 _
        · refine j_iload C d5_lowerBy_83 3 rfl ?_
          refine j_goto C d5_lowerBy_84 ?_
          exact hk31 _
    · refine j_if_ne C d5_lowerBy_68 ?_ ?_
      · refine j_iload C d5_lowerBy_75 3 rfl ?_
        exact hk32 _
      · refine j_iload C d5_lowerBy_71 2 rfl ?_
        refine j_goto C d5_lowerBy_72 ?_
        exact hk32 _

set_option maxHeartbeats 4000000 in
set_option maxRecDepth 100000 in
theorem wX5_lowerBy_3 {X : jC} {tc : jTC} (C : jx X cX5_lowerBy 6 RX5 (some .boolean) tc ({ frames := 3, cells := 0, slots := 0, locals := 81 } : Room)) (h_ h_words h_words_costs h_words_highs h_words_lows : Nat) (g_rules g_input g_weights : Value) (p1 : Int32) (p2 : Int32) (p3 : Int32) (k36 : ((Nat → Int32) → (Nat → Int64) → (Nat → Int64) → Option (Int32 × (Nat → Int32) × (Nat → Int64) × (Nat → Int64)))) (hk36 : ∀ (v46 : (Nat → Int32)) (v47 : (Nat → Int64)) (v48 : (Nat → Int64)), jo X 6 (0, 0) (jQI X (fun (u : (Nat → Int32) × (Nat → Int64) × (Nat → Int64)) => [(h_, .inr (5, [g_rules, g_input, g_weights, .ref h_words])), (h_words, .inr (10, [.ref h_words_costs, .ref h_words_highs, .ref h_words_lows])), (h_words_costs, .inl (tc.1, 1469, .inl u.1)), (h_words_highs, .inl (tc.2.1, 1469, .inr (.inl u.2.1))), (h_words_lows, .inl (tc.2.1, 1469, .inr (.inl u.2.2)))])) (k36 v46 v47 v48) [(h_, .inr (5, [g_rules, g_input, g_weights, .ref h_words])), (h_words, .inr (10, [.ref h_words_costs, .ref h_words_highs, .ref h_words_lows])), (h_words_costs, .inl (tc.1, 1469, .inl v46)), (h_words_highs, .inl (tc.2.1, 1469, .inr (.inl v47))), (h_words_lows, .inl (tc.2.1, 1469, .inr (.inl v48)))] 28 [(0, .ref h_), (1, .int p1), (2, .int p2), (3, .int p3)] []) (rc41 : Int32 → (Nat → Int32) → (Nat → Int64) → (Nat → Int64) → Option (Int32 × (Nat → Int32) × (Nat → Int64) × (Nat → Int64))) (hrc41 : ∀ (v37 : Int32) (v38 : (Nat → Int32)) (v39 : (Nat → Int64)) (v40 : (Nat → Int64)), jo X 6 (0, 0) (jQI X (fun (u : (Nat → Int32) × (Nat → Int64) × (Nat → Int64)) => [(h_, .inr (5, [g_rules, g_input, g_weights, .ref h_words])), (h_words, .inr (10, [.ref h_words_costs, .ref h_words_highs, .ref h_words_lows])), (h_words_costs, .inl (tc.1, 1469, .inl u.1)), (h_words_highs, .inl (tc.2.1, 1469, .inr (.inl u.2.1))), (h_words_lows, .inl (tc.2.1, 1469, .inr (.inl u.2.2)))])) (rc41 v37 v38 v39 v40) [(h_, .inr (5, [g_rules, g_input, g_weights, .ref h_words])), (h_words, .inr (10, [.ref h_words_costs, .ref h_words_highs, .ref h_words_lows])), (h_words_costs, .inl (tc.1, 1469, .inl v38)), (h_words_highs, .inl (tc.2.1, 1469, .inr (.inl v39))), (h_words_lows, .inl (tc.2.1, 1469, .inr (.inl v40)))] 3 [(0, .ref h_), (1, .int p1), (2, .int p2), (3, .int p3), (4, .int v37)] []) (v37 : Int32) (v38 : (Nat → Int32)) (v39 : (Nat → Int64)) (v40 : (Nat → Int64)) : jo X 6 (0, 0) (jQI X (fun (u : (Nat → Int32) × (Nat → Int64) × (Nat → Int64)) => [(h_, .inr (5, [g_rules, g_input, g_weights, .ref h_words])), (h_words, .inr (10, [.ref h_words_costs, .ref h_words_highs, .ref h_words_lows])), (h_words_costs, .inl (tc.1, 1469, .inl u.1)), (h_words_highs, .inl (tc.2.1, 1469, .inr (.inl u.2.1))), (h_words_lows, .inl (tc.2.1, 1469, .inr (.inl u.2.2)))])) (bX5_lowerBy_3 p3 k36 rc41 v37 v38 v39 v40) [(h_, .inr (5, [g_rules, g_input, g_weights, .ref h_words])), (h_words, .inr (10, [.ref h_words_costs, .ref h_words_highs, .ref h_words_lows])), (h_words_costs, .inl (tc.1, 1469, .inl v38)), (h_words_highs, .inl (tc.2.1, 1469, .inr (.inl v39))), (h_words_lows, .inl (tc.2.1, 1469, .inr (.inl v40)))] 3 [(0, .ref h_), (1, .int p1), (2, .int p2), (3, .int p3), (4, .int v37)] [] := by
  unfold bX5_lowerBy_3
  refine j_iload C d5_lowerBy_3 4 rfl ?_
  refine j_iload C d5_lowerBy_5 3 rfl ?_
  refine j_icmp_gt C d5_lowerBy_6 ?_ ?_
  · exact j_sub [0, 1, 2, 3] rfl (hk36 _ _ _)
  · refine j_aload C d5_lowerBy_9 0 rfl ?_
    refine j_get C d5_lowerBy_10 fl5_20 0 rfl rfl ?_
    refine j_const C d5_lowerBy_13 ?_
    refine j_iload C d5_lowerBy_16 4 rfl ?_
    refine j_iadd C d5_lowerBy_18 ?_
    refine j_callVV3 (As := [.int ((1458 : Int32) + v37)]) C d5_lowerBy_19 mv5_66 (kX10_putNone _ _ tc 1469 h_words h_words_costs h_words_highs h_words_lows v38 v39 v40 ((1458 : Int32) + v37)) ⟨rfl, rfl, Nat.le_of_ble_eq_true rfl, Nat.le_of_ble_eq_true rfl⟩ rfl 1 rfl [1, 2, 3, 4] rfl rfl rfl (Nat.le_of_ble_eq_true rfl) (fun o42 o43 o44 => [(h_, .inr (5, [g_rules, g_input, g_weights, .ref h_words])), (h_words, .inr (10, [.ref h_words_costs, .ref h_words_highs, .ref h_words_lows])), (h_words_costs, .inl (tc.1, 1469, .inl o42)), (h_words_highs, .inl (tc.2.1, 1469, .inr (.inl o43))), (h_words_lows, .inl (tc.2.1, 1469, .inr (.inl o44)))]) (fun _ => rfl) (fun _ => rfl) (fun _ _ _ => rfl) (fun o42 o43 o44 => ?_)
    refine j_iincN C (fun x45 => [(4, .int x45), (0, .ref h_), (1, .int p1), (2, .int p2), (3, .int p3)]) d5_lowerBy_22 4 rfl (by decide +kernel) (by decide) (fun _ => rfl) (fun x45 => ?_)
    refine j_goto C d5_lowerBy_25 ?_
    exact j_sub [1, 2, 3, 4, 0] rfl (hrc41 _ _ _ _)

set_option maxHeartbeats 4000000 in
set_option maxRecDepth 100000 in
theorem kX5_lowerBy (l : Launch) (D : va_G) (tc : jTC) (N : Nat) (h_ h_words h_words_costs h_words_highs h_words_lows : Nat) (g_rules g_input g_weights : Value) (c_words_costs : (Nat → Int32)) (c_words_highs : (Nat → Int64)) (c_words_lows : (Nat → Int64)) (p1 : Int32) (p2 : Int32) (p3 : Int32) : ctI l D tc yX5_lowerBy (Cond.code yX5_lowerBy cX5_lowerBy 6 (some .boolean) :: jtb) ({ frames := 3, cells := 0, slots := 0, locals := 81 } : Room) [.ref h_, .int p1, .int p2, .int p3] [(h_, .inr (5, [g_rules, g_input, g_weights, .ref h_words])), (h_words, .inr (10, [.ref h_words_costs, .ref h_words_highs, .ref h_words_lows])), (h_words_costs, .inl (tc.1, 1469, .inl c_words_costs)), (h_words_highs, .inl (tc.2.1, 1469, .inr (.inl c_words_highs))), (h_words_lows, .inl (tc.2.1, 1469, .inr (.inl c_words_lows)))] (fX5_lowerBy N c_words_costs c_words_highs c_words_lows p1 p2 p3) (fun (u : (Nat → Int32) × (Nat → Int64) × (Nat → Int64)) => [(h_, .inr (5, [g_rules, g_input, g_weights, .ref h_words])), (h_words, .inr (10, [.ref h_words_costs, .ref h_words_highs, .ref h_words_lows])), (h_words_costs, .inl (tc.1, 1469, .inl u.1)), (h_words_highs, .inl (tc.2.1, 1469, .inr (.inl u.2.1))), (h_words_lows, .inl (tc.2.1, 1469, .inr (.inl u.2.2)))]) := by
  refine ctI_of (lv0 := [(0, .ref h_), (1, .int p1), (2, .int p2), (3, .int p3)]) (by decide +kernel) (Nat.le_of_ble_eq_true rfl) rfl (fun X C => ?_)
  unfold fX5_lowerBy
  refine j_iload C d5_lowerBy_0 2 rfl ?_
  refine j_istore C d5_lowerBy_1 (by decide) (lv' := [(4, .int p2), (0, .ref h_), (1, .int p1), (2, .int p2), (3, .int p3)]) rfl ?_
  refine j_join3 28 (fun v1 v2 v3 => [(h_, .inr (5, [g_rules, g_input, g_weights, .ref h_words])), (h_words, .inr (10, [.ref h_words_costs, .ref h_words_highs, .ref h_words_lows])), (h_words_costs, .inl (tc.1, 1469, .inl v1)), (h_words_highs, .inl (tc.2.1, 1469, .inr (.inl v2))), (h_words_lows, .inl (tc.2.1, 1469, .inr (.inl v3)))]) (fun v1 v2 v3 => [(0, .ref h_), (1, .int p1), (2, .int p2), (3, .int p3)]) (fun v1 v2 v3 => []) (fun v1 v2 v3 => ?_) (fun k36 hk36 => ?_)
  · refine j_aload C d5_lowerBy_28 0 rfl ?_
    refine j_get C d5_lowerBy_29 fl5_20 0 rfl rfl ?_
    refine j_const C d5_lowerBy_32 ?_
    refine j_iload C d5_lowerBy_35 2 rfl ?_
    refine j_iadd C d5_lowerBy_36 ?_
    refine j_callVV3 (As := [.int ((1458 : Int32) + p2)]) C d5_lowerBy_37 mv5_88 (kX10_putEmpty _ _ tc 1469 h_words h_words_costs h_words_highs h_words_lows v1 v2 v3 ((1458 : Int32) + p2)) ⟨rfl, rfl, Nat.le_of_ble_eq_true rfl, Nat.le_of_ble_eq_true rfl⟩ rfl 1 rfl [1, 2, 3, 4] rfl rfl rfl (Nat.le_of_ble_eq_true rfl) (fun o4 o5 o6 => [(h_, .inr (5, [g_rules, g_input, g_weights, .ref h_words])), (h_words, .inr (10, [.ref h_words_costs, .ref h_words_highs, .ref h_words_lows])), (h_words_costs, .inl (tc.1, 1469, .inl o4)), (h_words_highs, .inl (tc.2.1, 1469, .inr (.inl o5))), (h_words_lows, .inl (tc.2.1, 1469, .inr (.inl o6)))]) (fun _ => rfl) (fun _ => rfl) (fun _ _ _ => rfl) (fun o4 o5 o6 => ?_)
    refine j_iload C d5_lowerBy_40 1 rfl ?_
    refine j_callSI0 (As := [.int p1]) C d5_lowerBy_41 ms5_91 (kX6_lengthOf _ _ tc p1) ⟨rfl, rfl, Nat.le_of_ble_eq_true rfl, Nat.le_of_ble_eq_true rfl⟩ rfl [] rfl rfl rfl (Nat.le_of_ble_eq_true rfl) (fun x7 => ?_)
    refine j_const C d5_lowerBy_44 ?_
    refine j_isub C d5_lowerBy_45 ?_
    refine j_leti (fun x8 => ?_)
    refine j_istore C d5_lowerBy_46 (by decide) (lv' := [(4, .int x8), (0, .ref h_), (1, .int p1), (2, .int p2), (3, .int p3)]) rfl ?_
    refine j_const C d5_lowerBy_48 ?_
    refine j_istore C d5_lowerBy_49 (by decide) (lv' := [(5, .int 0), (4, .int x8), (0, .ref h_), (1, .int p1), (2, .int p2), (3, .int p3)]) rfl ?_
    refine j_join3 98 (fun v9 v10 v11 => [(h_, .inr (5, [g_rules, g_input, g_weights, .ref h_words])), (h_words, .inr (10, [.ref h_words_costs, .ref h_words_highs, .ref h_words_lows])), (h_words_costs, .inl (tc.1, 1469, .inl v9)), (h_words_highs, .inl (tc.2.1, 1469, .inr (.inl v10))), (h_words_lows, .inl (tc.2.1, 1469, .inr (.inl v11)))]) (fun v9 v10 v11 => [(0, .ref h_), (1, .int p1), (2, .int p2), (3, .int p3)]) (fun v9 v10 v11 => []) (fun v9 v10 v11 => ?_) (fun k18 hk18 => ?_)
    · refine j_aload C d5_lowerBy_98 0 rfl ?_
      refine j_get C d5_lowerBy_99 fl5_20 0 rfl rfl ?_
      refine j_iload C d5_lowerBy_102 2 rfl ?_
      refine j_iload C d5_lowerBy_103 3 rfl ?_
      refine j_const C d5_lowerBy_104 ?_
      refine j_iload C d5_lowerBy_106 1 rfl ?_
      refine j_callSI0 (As := [.int p1]) C d5_lowerBy_107 ms5_99 (kX6_leftOf _ _ tc p1) ⟨rfl, rfl, Nat.le_of_ble_eq_true rfl, Nat.le_of_ble_eq_true rfl⟩ rfl [] rfl rfl rfl (Nat.le_of_ble_eq_true rfl) (fun x12 => ?_)
      refine j_iadd C d5_lowerBy_110 ?_
      refine j_callSI0 (As := [.int p2, .int p3, .int ((10 : Int32) + x12)]) C d5_lowerBy_111 ms5_48 (kX5_wordOf _ _ tc p2 p3 ((10 : Int32) + x12)) ⟨rfl, rfl, Nat.le_of_ble_eq_true rfl, Nat.le_of_ble_eq_true rfl⟩ rfl [] rfl rfl rfl (Nat.le_of_ble_eq_true rfl) (fun x13 => ?_)
      refine j_const C d5_lowerBy_114 ?_
      refine j_iload C d5_lowerBy_117 3 rfl ?_
      refine j_iadd C d5_lowerBy_118 ?_
      refine j_callVI4 (As := [.int x13, .int ((1458 : Int32) + p3)]) C d5_lowerBy_119 mv5_102 (kX10_lower _ _ tc 1469 h_words h_words_costs h_words_highs h_words_lows v9 v10 v11 x13 ((1458 : Int32) + p3)) ⟨rfl, rfl, Nat.le_of_ble_eq_true rfl, Nat.le_of_ble_eq_true rfl⟩ rfl 1 rfl [1, 2, 3, 4] rfl rfl rfl (Nat.le_of_ble_eq_true rfl) (fun o14 o15 o16 => [(h_, .inr (5, [g_rules, g_input, g_weights, .ref h_words])), (h_words, .inr (10, [.ref h_words_costs, .ref h_words_highs, .ref h_words_lows])), (h_words_costs, .inl (tc.1, 1469, .inl o14)), (h_words_highs, .inl (tc.2.1, 1469, .inr (.inl o15))), (h_words_lows, .inl (tc.2.1, 1469, .inr (.inl o16)))]) (fun _ => rfl) (fun _ => rfl) (fun _ _ _ => rfl) (fun o17 o14 o15 o16 => ?_)
      refine j_gz (fun hz => ?_)
      exact j_zret C hz d5_lowerBy_122 rfl
    · exact j_sub [2, 3, 4, 5, 1, 0] rfl (j_loop4 (fun v19 v20 v21 v22 => [(h_, .inr (5, [g_rules, g_input, g_weights, .ref h_words])), (h_words, .inr (10, [.ref h_words_costs, .ref h_words_highs, .ref h_words_lows])), (h_words_costs, .inl (tc.1, 1469, .inl v20)), (h_words_highs, .inl (tc.2.1, 1469, .inr (.inl v21))), (h_words_lows, .inl (tc.2.1, 1469, .inr (.inl v22)))]) (fun v19 v20 v21 v22 => [(0, .ref h_), (1, .int p1), (2, .int p2), (3, .int p3), (4, .int x8), (5, .int v19)]) (fun rc23 hrc23 v19 v20 v21 v22 => wX5_lowerBy_51 C N h_ h_words h_words_costs h_words_highs h_words_lows g_rules g_input g_weights p1 p2 p3 x8 k18 hk18 rc23 hrc23 v19 v20 v21 v22) N _ _ _ _)
  · exact j_sub [1, 2, 3, 4, 0] rfl (j_loop4 (fun v37 v38 v39 v40 => [(h_, .inr (5, [g_rules, g_input, g_weights, .ref h_words])), (h_words, .inr (10, [.ref h_words_costs, .ref h_words_highs, .ref h_words_lows])), (h_words_costs, .inl (tc.1, 1469, .inl v38)), (h_words_highs, .inl (tc.2.1, 1469, .inr (.inl v39))), (h_words_lows, .inl (tc.2.1, 1469, .inr (.inl v40)))]) (fun v37 v38 v39 v40 => [(0, .ref h_), (1, .int p1), (2, .int p2), (3, .int p3), (4, .int v37)]) (fun rc41 hrc41 v37 v38 v39 v40 => wX5_lowerBy_3 C h_ h_words h_words_costs h_words_highs h_words_lows g_rules g_input g_weights p1 p2 p3 k36 hk36 rc41 hrc41 v37 v38 v39 v40) N _ _ _ _)

theorem d5_findWords_0 : jda cX5_findWords 0 0 1 := Or.inl ⟨0, by decide +kernel⟩
theorem d5_findWords_1 : jdi cX5_findWords 1 1 2 := Or.inl ⟨1, by decide +kernel⟩
theorem d5_findWords_2 : jdi cX5_findWords 2 2 3 := Or.inl ⟨2, by decide +kernel⟩
theorem d5_findWords_3 : jd cX5_findWords 3 (.invokevirtual 63) 3 6 := by decide +kernel
theorem d5_findWords_6 : jdk cX5_findWords 6 0 7 := Or.inl ⟨0, by decide +kernel⟩
theorem d5_findWords_7 : jds cX5_findWords 7 3 8 := Or.inl ⟨3, by decide +kernel⟩
theorem d5_findWords_8 : jdi cX5_findWords 8 3 9 := Or.inl ⟨3, by decide +kernel⟩
theorem d5_findWords_9 : jdk cX5_findWords 9 8 11 := Or.inr (Or.inl ⟨8, by decide +kernel⟩)
theorem d5_findWords_11 : jdb cX5_findWords 11 (.if_icmp .ge 25) 25 36 14 := by decide +kernel
theorem d5_findWords_14 : jda cX5_findWords 14 0 15 := Or.inl ⟨0, by decide +kernel⟩
theorem d5_findWords_15 : jd cX5_findWords 15 (.getfield 20) 3 18 := by decide +kernel
theorem d5_findWords_18 : jdi cX5_findWords 18 1 19 := Or.inl ⟨1, by decide +kernel⟩
theorem d5_findWords_19 : jdi cX5_findWords 19 2 20 := Or.inl ⟨2, by decide +kernel⟩
theorem d5_findWords_20 : jdk cX5_findWords 20 10 22 := Or.inr (Or.inl ⟨10, by decide +kernel⟩)
theorem d5_findWords_22 : jdi cX5_findWords 22 3 23 := Or.inl ⟨3, by decide +kernel⟩
theorem d5_findWords_23 : jd cX5_findWords 23 (.iadd) 1 24 := by decide +kernel
theorem d5_findWords_24 : jd cX5_findWords 24 (.invokestatic 48) 3 27 := by decide +kernel
theorem d5_findWords_27 : jd cX5_findWords 27 (.invokevirtual 66) 3 30 := by decide +kernel
theorem d5_findWords_30 : jd cX5_findWords 30 (.iinc 3 1) 3 33 := by decide +kernel
theorem d5_findWords_33 : jdb cX5_findWords 33 (.goto (-25)) (-25) 8 36 := by decide +kernel
theorem d5_findWords_36 : jdk cX5_findWords 36 1 37 := Or.inl ⟨1, by decide +kernel⟩
theorem d5_findWords_37 : jds cX5_findWords 37 3 38 := Or.inl ⟨3, by decide +kernel⟩
theorem d5_findWords_38 : jdk cX5_findWords 38 0 39 := Or.inl ⟨0, by decide +kernel⟩
theorem d5_findWords_39 : jds cX5_findWords 39 4 41 := Or.inr (by decide +kernel)
theorem d5_findWords_41 : jdi cX5_findWords 41 4 43 := Or.inr (by decide +kernel)
theorem d5_findWords_43 : jdk cX5_findWords 43 1000 46 := Or.inr (Or.inr ⟨1000, by decide +kernel⟩)
theorem d5_findWords_46 : jdb cX5_findWords 46 (.if_icmp .ge 65) 65 111 49 := by decide +kernel
theorem d5_findWords_49 : jdi cX5_findWords 49 3 50 := Or.inl ⟨3, by decide +kernel⟩
theorem d5_findWords_50 : jdb cX5_findWords 50 (.ifCond .eq 61) 61 111 53 := by decide +kernel
theorem d5_findWords_53 : jdk cX5_findWords 53 0 54 := Or.inl ⟨0, by decide +kernel⟩
theorem d5_findWords_54 : jds cX5_findWords 54 3 55 := Or.inl ⟨3, by decide +kernel⟩
theorem d5_findWords_55 : jdk cX5_findWords 55 0 56 := Or.inl ⟨0, by decide +kernel⟩
theorem d5_findWords_56 : jds cX5_findWords 56 5 58 := Or.inr (by decide +kernel)
theorem d5_findWords_58 : jdi cX5_findWords 58 5 60 := Or.inr (by decide +kernel)
theorem d5_findWords_60 : jda cX5_findWords 60 0 61 := Or.inl ⟨0, by decide +kernel⟩
theorem d5_findWords_61 : jd cX5_findWords 61 (.getfield 24) 3 64 := by decide +kernel
theorem d5_findWords_64 : jd cX5_findWords 64 (.getfield 69) 3 67 := by decide +kernel
theorem d5_findWords_67 : jdb cX5_findWords 67 (.if_icmp .ge 38) 38 105 70 := by decide +kernel
theorem d5_findWords_70 : jda cX5_findWords 70 0 71 := Or.inl ⟨0, by decide +kernel⟩
theorem d5_findWords_71 : jda cX5_findWords 71 0 72 := Or.inl ⟨0, by decide +kernel⟩
theorem d5_findWords_72 : jd cX5_findWords 72 (.getfield 24) 3 75 := by decide +kernel
theorem d5_findWords_75 : jd cX5_findWords 75 (.getfield 74) 3 78 := by decide +kernel
theorem d5_findWords_78 : jdi cX5_findWords 78 5 80 := Or.inr (by decide +kernel)
theorem d5_findWords_80 : jd cX5_findWords 80 (.iaload) 1 81 := by decide +kernel
theorem d5_findWords_81 : jdi cX5_findWords 81 1 82 := Or.inl ⟨1, by decide +kernel⟩
theorem d5_findWords_82 : jdi cX5_findWords 82 2 83 := Or.inl ⟨2, by decide +kernel⟩
theorem d5_findWords_83 : jd cX5_findWords 83 (.invokevirtual 77) 3 86 := by decide +kernel
theorem d5_findWords_86 : jdb cX5_findWords 86 (.ifCond .ne 7) 7 93 89 := by decide +kernel
theorem d5_findWords_89 : jdi cX5_findWords 89 3 90 := Or.inl ⟨3, by decide +kernel⟩
theorem d5_findWords_90 : jdb cX5_findWords 90 (.ifCond .eq 7) 7 97 93 := by decide +kernel
theorem d5_findWords_93 : jdk cX5_findWords 93 1 94 := Or.inl ⟨1, by decide +kernel⟩
theorem d5_findWords_94 : jdb cX5_findWords 94 (.goto 4) 4 98 97 := by decide +kernel
theorem d5_findWords_97 : jdk cX5_findWords 97 0 98 := Or.inl ⟨0, by decide +kernel⟩
theorem d5_findWords_98 : jds cX5_findWords 98 3 99 := Or.inl ⟨3, by decide +kernel⟩
theorem d5_findWords_99 : jd cX5_findWords 99 (.iinc 5 1) 3 102 := by decide +kernel
theorem d5_findWords_102 : jdb cX5_findWords 102 (.goto (-44)) (-44) 58 105 := by decide +kernel
theorem d5_findWords_105 : jd cX5_findWords 105 (.iinc 4 1) 3 108 := by decide +kernel
theorem d5_findWords_108 : jdb cX5_findWords 108 (.goto (-67)) (-67) 41 111 := by decide +kernel
theorem d5_findWords_111 : decode cX5_findWords 111 = .ok (.return_, 1) := by decide +kernel
set_option maxHeartbeats 4000000 in
set_option maxRecDepth 100000 in
theorem wX5_findWords_58 {X : jC} {tc : jTC} (C : jx X cX5_findWords 6 RX5 none tc ({ frames := 4, cells := 0, slots := 0, locals := 106 } : Room)) (N : Nat) (h_ h_rules h_rules_codes h_input h_input_terminals h_weights h_words h_words_costs h_words_highs h_words_lows : Nat) (p1 : Int32) (p2 : Int32) (c_rules_codes : (Nat → Int32)) (c_rules_count : Int32) (c_input_terminals : (Nat → Int32)) (c_input_length : Int32) (c_weights : (Nat → Int32)) (v12 : Int32) (k22 : (Int32 → (Nat → Int32) → (Nat → Int64) → (Nat → Int64) → Option ((Nat → Int32) × (Nat → Int64) × (Nat → Int64)))) (hk22 : ∀ (v39 : Int32) (v40 : (Nat → Int32)) (v41 : (Nat → Int64)) (v42 : (Nat → Int64)), jo X 6 (0, 0) (jQV X (fun (u : (Nat → Int32) × (Nat → Int64) × (Nat → Int64)) => [(h_, .inr (5, [.ref h_rules, .ref h_input, .ref h_weights, .ref h_words])), (h_rules, .inr (6, [.ref h_rules_codes, .int c_rules_count])), (h_rules_codes, .inl (tc.1, 24, .inl c_rules_codes)), (h_input, .inr (3, [.ref h_input_terminals, .int c_input_length])), (h_input_terminals, .inl (tc.1, 40, .inl c_input_terminals)), (h_weights, .inl (tc.1, 8, .inl c_weights)), (h_words, .inr (10, [.ref h_words_costs, .ref h_words_highs, .ref h_words_lows])), (h_words_costs, .inl (tc.1, 1469, .inl u.1)), (h_words_highs, .inl (tc.2.1, 1469, .inr (.inl u.2.1))), (h_words_lows, .inl (tc.2.1, 1469, .inr (.inl u.2.2)))])) (k22 v39 v40 v41 v42) [(h_, .inr (5, [.ref h_rules, .ref h_input, .ref h_weights, .ref h_words])), (h_rules, .inr (6, [.ref h_rules_codes, .int c_rules_count])), (h_rules_codes, .inl (tc.1, 24, .inl c_rules_codes)), (h_input, .inr (3, [.ref h_input_terminals, .int c_input_length])), (h_input_terminals, .inl (tc.1, 40, .inl c_input_terminals)), (h_weights, .inl (tc.1, 8, .inl c_weights)), (h_words, .inr (10, [.ref h_words_costs, .ref h_words_highs, .ref h_words_lows])), (h_words_costs, .inl (tc.1, 1469, .inl v40)), (h_words_highs, .inl (tc.2.1, 1469, .inr (.inl v41))), (h_words_lows, .inl (tc.2.1, 1469, .inr (.inl v42)))] 105 [(0, .ref h_), (1, .int p1), (2, .int p2), (3, .int v39), (4, .int v12)] []) (rc28 : Int32 → Int32 → (Nat → Int32) → (Nat → Int64) → (Nat → Int64) → Option ((Nat → Int32) × (Nat → Int64) × (Nat → Int64))) (hrc28 : ∀ (v23 : Int32) (v24 : Int32) (v25 : (Nat → Int32)) (v26 : (Nat → Int64)) (v27 : (Nat → Int64)), jo X 6 (0, 0) (jQV X (fun (u : (Nat → Int32) × (Nat → Int64) × (Nat → Int64)) => [(h_, .inr (5, [.ref h_rules, .ref h_input, .ref h_weights, .ref h_words])), (h_rules, .inr (6, [.ref h_rules_codes, .int c_rules_count])), (h_rules_codes, .inl (tc.1, 24, .inl c_rules_codes)), (h_input, .inr (3, [.ref h_input_terminals, .int c_input_length])), (h_input_terminals, .inl (tc.1, 40, .inl c_input_terminals)), (h_weights, .inl (tc.1, 8, .inl c_weights)), (h_words, .inr (10, [.ref h_words_costs, .ref h_words_highs, .ref h_words_lows])), (h_words_costs, .inl (tc.1, 1469, .inl u.1)), (h_words_highs, .inl (tc.2.1, 1469, .inr (.inl u.2.1))), (h_words_lows, .inl (tc.2.1, 1469, .inr (.inl u.2.2)))])) (rc28 v23 v24 v25 v26 v27) [(h_, .inr (5, [.ref h_rules, .ref h_input, .ref h_weights, .ref h_words])), (h_rules, .inr (6, [.ref h_rules_codes, .int c_rules_count])), (h_rules_codes, .inl (tc.1, 24, .inl c_rules_codes)), (h_input, .inr (3, [.ref h_input_terminals, .int c_input_length])), (h_input_terminals, .inl (tc.1, 40, .inl c_input_terminals)), (h_weights, .inl (tc.1, 8, .inl c_weights)), (h_words, .inr (10, [.ref h_words_costs, .ref h_words_highs, .ref h_words_lows])), (h_words_costs, .inl (tc.1, 1469, .inl v25)), (h_words_highs, .inl (tc.2.1, 1469, .inr (.inl v26))), (h_words_lows, .inl (tc.2.1, 1469, .inr (.inl v27)))] 58 [(0, .ref h_), (1, .int p1), (2, .int p2), (3, .int v23), (4, .int v12), (5, .int v24)] []) (v23 : Int32) (v24 : Int32) (v25 : (Nat → Int32)) (v26 : (Nat → Int64)) (v27 : (Nat → Int64)) : jo X 6 (0, 0) (jQV X (fun (u : (Nat → Int32) × (Nat → Int64) × (Nat → Int64)) => [(h_, .inr (5, [.ref h_rules, .ref h_input, .ref h_weights, .ref h_words])), (h_rules, .inr (6, [.ref h_rules_codes, .int c_rules_count])), (h_rules_codes, .inl (tc.1, 24, .inl c_rules_codes)), (h_input, .inr (3, [.ref h_input_terminals, .int c_input_length])), (h_input_terminals, .inl (tc.1, 40, .inl c_input_terminals)), (h_weights, .inl (tc.1, 8, .inl c_weights)), (h_words, .inr (10, [.ref h_words_costs, .ref h_words_highs, .ref h_words_lows])), (h_words_costs, .inl (tc.1, 1469, .inl u.1)), (h_words_highs, .inl (tc.2.1, 1469, .inr (.inl u.2.1))), (h_words_lows, .inl (tc.2.1, 1469, .inr (.inl u.2.2)))])) (bX5_findWords_58 N p1 p2 c_rules_codes c_rules_count k22 rc28 v23 v24 v25 v26 v27) [(h_, .inr (5, [.ref h_rules, .ref h_input, .ref h_weights, .ref h_words])), (h_rules, .inr (6, [.ref h_rules_codes, .int c_rules_count])), (h_rules_codes, .inl (tc.1, 24, .inl c_rules_codes)), (h_input, .inr (3, [.ref h_input_terminals, .int c_input_length])), (h_input_terminals, .inl (tc.1, 40, .inl c_input_terminals)), (h_weights, .inl (tc.1, 8, .inl c_weights)), (h_words, .inr (10, [.ref h_words_costs, .ref h_words_highs, .ref h_words_lows])), (h_words_costs, .inl (tc.1, 1469, .inl v25)), (h_words_highs, .inl (tc.2.1, 1469, .inr (.inl v26))), (h_words_lows, .inl (tc.2.1, 1469, .inr (.inl v27)))] 58 [(0, .ref h_), (1, .int p1), (2, .int p2), (3, .int v23), (4, .int v12), (5, .int v24)] [] := by
  unfold bX5_findWords_58
  refine j_iload C d5_findWords_58 5 rfl ?_
  refine j_aload C d5_findWords_60 0 rfl ?_
  refine j_get C d5_findWords_61 fl5_24 0 rfl rfl ?_
  refine j_get C d5_findWords_64 fl5_69 1 rfl rfl ?_
  refine j_icmp_ge C d5_findWords_67 ?_ ?_
  · exact j_sub [0, 1, 2, 3, 4] rfl (hk22 _ _ _ _)
  · refine j_aload C d5_findWords_70 0 rfl ?_
    refine j_aload C d5_findWords_71 0 rfl ?_
    refine j_get C d5_findWords_72 fl5_24 0 rfl rfl ?_
    refine j_get C d5_findWords_75 fl5_74 1 rfl rfl ?_
    refine j_iload C d5_findWords_78 5 rfl ?_
    refine j_iald C d5_findWords_80 2 rfl (fun x29 => ?_)
    refine j_iload C d5_findWords_81 1 rfl ?_
    refine j_iload C d5_findWords_82 2 rfl ?_
    refine j_callVI4 (As := [.int x29, .int p1, .int p2]) C d5_findWords_83 mv5_77 (kX5_lowerBy _ _ tc N h_ h_words h_words_costs h_words_highs h_words_lows (.ref h_rules) (.ref h_input) (.ref h_weights) v25 v26 v27 x29 p1 p2) ⟨rfl, rfl, Nat.le_of_ble_eq_true rfl, Nat.le_of_ble_eq_true rfl⟩ rfl 0 rfl [0, 6, 7, 8, 9] rfl rfl rfl (Nat.le_of_ble_eq_true rfl) (fun o30 o31 o32 => [(h_, .inr (5, [.ref h_rules, .ref h_input, .ref h_weights, .ref h_words])), (h_rules, .inr (6, [.ref h_rules_codes, .int c_rules_count])), (h_rules_codes, .inl (tc.1, 24, .inl c_rules_codes)), (h_input, .inr (3, [.ref h_input_terminals, .int c_input_length])), (h_input_terminals, .inl (tc.1, 40, .inl c_input_terminals)), (h_weights, .inl (tc.1, 8, .inl c_weights)), (h_words, .inr (10, [.ref h_words_costs, .ref h_words_highs, .ref h_words_lows])), (h_words_costs, .inl (tc.1, 1469, .inl o30)), (h_words_highs, .inl (tc.2.1, 1469, .inr (.inl o31))), (h_words_lows, .inl (tc.2.1, 1469, .inr (.inl o32)))]) (fun _ => rfl) (fun _ => rfl) (fun _ _ _ => rfl) (fun o33 o30 o31 o32 => ?_)
    refine j_join 98 (fun v34 => [(h_, .inr (5, [.ref h_rules, .ref h_input, .ref h_weights, .ref h_words])), (h_rules, .inr (6, [.ref h_rules_codes, .int c_rules_count])), (h_rules_codes, .inl (tc.1, 24, .inl c_rules_codes)), (h_input, .inr (3, [.ref h_input_terminals, .int c_input_length])), (h_input_terminals, .inl (tc.1, 40, .inl c_input_terminals)), (h_weights, .inl (tc.1, 8, .inl c_weights)), (h_words, .inr (10, [.ref h_words_costs, .ref h_words_highs, .ref h_words_lows])), (h_words_costs, .inl (tc.1, 1469, .inl o30)), (h_words_highs, .inl (tc.2.1, 1469, .inr (.inl o31))), (h_words_lows, .inl (tc.2.1, 1469, .inr (.inl o32)))]) (fun v34 => [(0, .ref h_), (1, .int p1), (2, .int p2), (4, .int v12), (5, .int v24)]) (fun v34 => [.int v34]) (fun v34 => ?_) (fun k36 hk36 => ?_)
    · refine j_istore C d5_findWords_98 (by decide) (lv' := [(3, .int v34), (0, .ref h_), (1, .int p1), (2, .int p2), (4, .int v12), (5, .int v24)]) rfl ?_
      refine j_iincN C (fun x35 => [(5, .int x35), (3, .int v34), (0, .ref h_), (1, .int p1), (2, .int p2), (4, .int v12)]) d5_findWords_99 5 rfl (by decide +kernel) (by decide) (fun _ => rfl) (fun x35 => ?_)
      refine j_goto C d5_findWords_102 ?_
      exact j_sub [2, 3, 4, 1, 5, 0] rfl (hrc28 _ _ _ _ _)
    · refine j_join 93 (fun v37 => [(h_, .inr (5, [.ref h_rules, .ref h_input, .ref h_weights, .ref h_words])), (h_rules, .inr (6, [.ref h_rules_codes, .int c_rules_count])), (h_rules_codes, .inl (tc.1, 24, .inl c_rules_codes)), (h_input, .inr (3, [.ref h_input_terminals, .int c_input_length])), (h_input_terminals, .inl (tc.1, 40, .inl c_input_terminals)), (h_weights, .inl (tc.1, 8, .inl c_weights)), (h_words, .inr (10, [.ref h_words_costs, .ref h_words_highs, .ref h_words_lows])), (h_words_costs, .inl (tc.1, 1469, .inl o30)), (h_words_highs, .inl (tc.2.1, 1469, .inr (.inl o31))), (h_words_lows, .inl (tc.2.1, 1469, .inr (.inl o32)))]) (fun v37 => [(0, .ref h_), (1, .int p1), (2, .int p2), (4, .int v12), (5, .int v24)]) (fun v37 => []) (fun v37 => ?_) (fun k38 hk38 => ?_)
      · refine j_const C d5_findWords_93 ?_
        refine j_goto C d5_findWords_94 ?_
        exact hk36 _
      · refine j_if_ne C d5_findWords_86 ?_ ?_
        · exact j_sub [0, 1, 2, 4, 5] rfl (hk38 _)
        · refine j_iload C d5_findWords_89 3 rfl ?_
          refine j_if_eq C d5_findWords_90 ?_ ?_
          · refine j_const C d5_findWords_97 ?_
            exact j_sub [0, 1, 2, 4, 5] rfl (hk36 _)
          · exact j_sub [0, 1, 2, 4, 5] rfl (hk38 _)

set_option maxHeartbeats 4000000 in
set_option maxRecDepth 100000 in
theorem wX5_findWords_41 {X : jC} {tc : jTC} (C : jx X cX5_findWords 6 RX5 none tc ({ frames := 4, cells := 0, slots := 0, locals := 106 } : Room)) (N : Nat) (h_ h_rules h_rules_codes h_input h_input_terminals h_weights h_words h_words_costs h_words_highs h_words_lows : Nat) (p1 : Int32) (p2 : Int32) (c_rules_codes : (Nat → Int32)) (c_rules_count : Int32) (c_input_terminals : (Nat → Int32)) (c_input_length : Int32) (c_weights : (Nat → Int32)) (k10 : ((Nat → Int32) → (Nat → Int64) → (Nat → Int64) → Option ((Nat → Int32) × (Nat → Int64) × (Nat → Int64)))) (hk10 : ∀ (v43 : (Nat → Int32)) (v44 : (Nat → Int64)) (v45 : (Nat → Int64)), jo X 6 (0, 0) (jQV X (fun (u : (Nat → Int32) × (Nat → Int64) × (Nat → Int64)) => [(h_, .inr (5, [.ref h_rules, .ref h_input, .ref h_weights, .ref h_words])), (h_rules, .inr (6, [.ref h_rules_codes, .int c_rules_count])), (h_rules_codes, .inl (tc.1, 24, .inl c_rules_codes)), (h_input, .inr (3, [.ref h_input_terminals, .int c_input_length])), (h_input_terminals, .inl (tc.1, 40, .inl c_input_terminals)), (h_weights, .inl (tc.1, 8, .inl c_weights)), (h_words, .inr (10, [.ref h_words_costs, .ref h_words_highs, .ref h_words_lows])), (h_words_costs, .inl (tc.1, 1469, .inl u.1)), (h_words_highs, .inl (tc.2.1, 1469, .inr (.inl u.2.1))), (h_words_lows, .inl (tc.2.1, 1469, .inr (.inl u.2.2)))])) (k10 v43 v44 v45) [(h_, .inr (5, [.ref h_rules, .ref h_input, .ref h_weights, .ref h_words])), (h_rules, .inr (6, [.ref h_rules_codes, .int c_rules_count])), (h_rules_codes, .inl (tc.1, 24, .inl c_rules_codes)), (h_input, .inr (3, [.ref h_input_terminals, .int c_input_length])), (h_input_terminals, .inl (tc.1, 40, .inl c_input_terminals)), (h_weights, .inl (tc.1, 8, .inl c_weights)), (h_words, .inr (10, [.ref h_words_costs, .ref h_words_highs, .ref h_words_lows])), (h_words_costs, .inl (tc.1, 1469, .inl v43)), (h_words_highs, .inl (tc.2.1, 1469, .inr (.inl v44))), (h_words_lows, .inl (tc.2.1, 1469, .inr (.inl v45)))] 111 [] []) (rc16 : Int32 → Int32 → (Nat → Int32) → (Nat → Int64) → (Nat → Int64) → Option ((Nat → Int32) × (Nat → Int64) × (Nat → Int64))) (hrc16 : ∀ (v11 : Int32) (v12 : Int32) (v13 : (Nat → Int32)) (v14 : (Nat → Int64)) (v15 : (Nat → Int64)), jo X 6 (0, 0) (jQV X (fun (u : (Nat → Int32) × (Nat → Int64) × (Nat → Int64)) => [(h_, .inr (5, [.ref h_rules, .ref h_input, .ref h_weights, .ref h_words])), (h_rules, .inr (6, [.ref h_rules_codes, .int c_rules_count])), (h_rules_codes, .inl (tc.1, 24, .inl c_rules_codes)), (h_input, .inr (3, [.ref h_input_terminals, .int c_input_length])), (h_input_terminals, .inl (tc.1, 40, .inl c_input_terminals)), (h_weights, .inl (tc.1, 8, .inl c_weights)), (h_words, .inr (10, [.ref h_words_costs, .ref h_words_highs, .ref h_words_lows])), (h_words_costs, .inl (tc.1, 1469, .inl u.1)), (h_words_highs, .inl (tc.2.1, 1469, .inr (.inl u.2.1))), (h_words_lows, .inl (tc.2.1, 1469, .inr (.inl u.2.2)))])) (rc16 v11 v12 v13 v14 v15) [(h_, .inr (5, [.ref h_rules, .ref h_input, .ref h_weights, .ref h_words])), (h_rules, .inr (6, [.ref h_rules_codes, .int c_rules_count])), (h_rules_codes, .inl (tc.1, 24, .inl c_rules_codes)), (h_input, .inr (3, [.ref h_input_terminals, .int c_input_length])), (h_input_terminals, .inl (tc.1, 40, .inl c_input_terminals)), (h_weights, .inl (tc.1, 8, .inl c_weights)), (h_words, .inr (10, [.ref h_words_costs, .ref h_words_highs, .ref h_words_lows])), (h_words_costs, .inl (tc.1, 1469, .inl v13)), (h_words_highs, .inl (tc.2.1, 1469, .inr (.inl v14))), (h_words_lows, .inl (tc.2.1, 1469, .inr (.inl v15)))] 41 [(0, .ref h_), (1, .int p1), (2, .int p2), (3, .int v11), (4, .int v12)] []) (v11 : Int32) (v12 : Int32) (v13 : (Nat → Int32)) (v14 : (Nat → Int64)) (v15 : (Nat → Int64)) : jo X 6 (0, 0) (jQV X (fun (u : (Nat → Int32) × (Nat → Int64) × (Nat → Int64)) => [(h_, .inr (5, [.ref h_rules, .ref h_input, .ref h_weights, .ref h_words])), (h_rules, .inr (6, [.ref h_rules_codes, .int c_rules_count])), (h_rules_codes, .inl (tc.1, 24, .inl c_rules_codes)), (h_input, .inr (3, [.ref h_input_terminals, .int c_input_length])), (h_input_terminals, .inl (tc.1, 40, .inl c_input_terminals)), (h_weights, .inl (tc.1, 8, .inl c_weights)), (h_words, .inr (10, [.ref h_words_costs, .ref h_words_highs, .ref h_words_lows])), (h_words_costs, .inl (tc.1, 1469, .inl u.1)), (h_words_highs, .inl (tc.2.1, 1469, .inr (.inl u.2.1))), (h_words_lows, .inl (tc.2.1, 1469, .inr (.inl u.2.2)))])) (bX5_findWords_41 N p1 p2 c_rules_codes c_rules_count k10 rc16 v11 v12 v13 v14 v15) [(h_, .inr (5, [.ref h_rules, .ref h_input, .ref h_weights, .ref h_words])), (h_rules, .inr (6, [.ref h_rules_codes, .int c_rules_count])), (h_rules_codes, .inl (tc.1, 24, .inl c_rules_codes)), (h_input, .inr (3, [.ref h_input_terminals, .int c_input_length])), (h_input_terminals, .inl (tc.1, 40, .inl c_input_terminals)), (h_weights, .inl (tc.1, 8, .inl c_weights)), (h_words, .inr (10, [.ref h_words_costs, .ref h_words_highs, .ref h_words_lows])), (h_words_costs, .inl (tc.1, 1469, .inl v13)), (h_words_highs, .inl (tc.2.1, 1469, .inr (.inl v14))), (h_words_lows, .inl (tc.2.1, 1469, .inr (.inl v15)))] 41 [(0, .ref h_), (1, .int p1), (2, .int p2), (3, .int v11), (4, .int v12)] [] := by
  unfold bX5_findWords_41
  refine j_iload C d5_findWords_41 4 rfl ?_
  refine j_const C d5_findWords_43 ?_
  refine j_icmp_ge C d5_findWords_46 ?_ ?_
  · exact j_sub [] rfl (hk10 _ _ _)
  · refine j_iload C d5_findWords_49 3 rfl ?_
    refine j_if_eq C d5_findWords_50 ?_ ?_
    · exact j_sub [] rfl (hk10 _ _ _)
    · refine j_const C d5_findWords_53 ?_
      refine j_istore C d5_findWords_54 (by decide) (lv' := [(3, .int 0), (0, .ref h_), (1, .int p1), (2, .int p2), (4, .int v12)]) rfl ?_
      refine j_const C d5_findWords_55 ?_
      refine j_istore C d5_findWords_56 (by decide) (lv' := [(5, .int 0), (3, .int 0), (0, .ref h_), (1, .int p1), (2, .int p2), (4, .int v12)]) rfl ?_
      refine j_join4 105 (fun v17 v18 v19 v20 => [(h_, .inr (5, [.ref h_rules, .ref h_input, .ref h_weights, .ref h_words])), (h_rules, .inr (6, [.ref h_rules_codes, .int c_rules_count])), (h_rules_codes, .inl (tc.1, 24, .inl c_rules_codes)), (h_input, .inr (3, [.ref h_input_terminals, .int c_input_length])), (h_input_terminals, .inl (tc.1, 40, .inl c_input_terminals)), (h_weights, .inl (tc.1, 8, .inl c_weights)), (h_words, .inr (10, [.ref h_words_costs, .ref h_words_highs, .ref h_words_lows])), (h_words_costs, .inl (tc.1, 1469, .inl v18)), (h_words_highs, .inl (tc.2.1, 1469, .inr (.inl v19))), (h_words_lows, .inl (tc.2.1, 1469, .inr (.inl v20)))]) (fun v17 v18 v19 v20 => [(0, .ref h_), (1, .int p1), (2, .int p2), (3, .int v17), (4, .int v12)]) (fun v17 v18 v19 v20 => []) (fun v17 v18 v19 v20 => ?_) (fun k22 hk22 => ?_)
      · refine j_iincN C (fun x21 => [(4, .int x21), (0, .ref h_), (1, .int p1), (2, .int p2), (3, .int v17)]) d5_findWords_105 4 rfl (by decide +kernel) (by decide) (fun _ => rfl) (fun x21 => ?_)
        refine j_goto C d5_findWords_108 ?_
        exact j_sub [1, 2, 3, 4, 0] rfl (hrc16 _ _ _ _ _)
      · exact j_sub [2, 3, 4, 1, 5, 0] rfl (j_loop5 (fun v23 v24 v25 v26 v27 => [(h_, .inr (5, [.ref h_rules, .ref h_input, .ref h_weights, .ref h_words])), (h_rules, .inr (6, [.ref h_rules_codes, .int c_rules_count])), (h_rules_codes, .inl (tc.1, 24, .inl c_rules_codes)), (h_input, .inr (3, [.ref h_input_terminals, .int c_input_length])), (h_input_terminals, .inl (tc.1, 40, .inl c_input_terminals)), (h_weights, .inl (tc.1, 8, .inl c_weights)), (h_words, .inr (10, [.ref h_words_costs, .ref h_words_highs, .ref h_words_lows])), (h_words_costs, .inl (tc.1, 1469, .inl v25)), (h_words_highs, .inl (tc.2.1, 1469, .inr (.inl v26))), (h_words_lows, .inl (tc.2.1, 1469, .inr (.inl v27)))]) (fun v23 v24 v25 v26 v27 => [(0, .ref h_), (1, .int p1), (2, .int p2), (3, .int v23), (4, .int v12), (5, .int v24)]) (fun rc28 hrc28 v23 v24 v25 v26 v27 => wX5_findWords_58 C N h_ h_rules h_rules_codes h_input h_input_terminals h_weights h_words h_words_costs h_words_highs h_words_lows p1 p2 c_rules_codes c_rules_count c_input_terminals c_input_length c_weights v12 k22 hk22 rc28 hrc28 v23 v24 v25 v26 v27) N _ _ _ _ _)

set_option maxHeartbeats 4000000 in
set_option maxRecDepth 100000 in
theorem wX5_findWords_8 {X : jC} {tc : jTC} (C : jx X cX5_findWords 6 RX5 none tc ({ frames := 4, cells := 0, slots := 0, locals := 106 } : Room)) (h_ h_rules h_rules_codes h_input h_input_terminals h_weights h_words h_words_costs h_words_highs h_words_lows : Nat) (p1 : Int32) (p2 : Int32) (c_rules_codes : (Nat → Int32)) (c_rules_count : Int32) (c_input_terminals : (Nat → Int32)) (c_input_length : Int32) (c_weights : (Nat → Int32)) (k46 : ((Nat → Int32) → (Nat → Int64) → (Nat → Int64) → Option ((Nat → Int32) × (Nat → Int64) × (Nat → Int64)))) (hk46 : ∀ (v57 : (Nat → Int32)) (v58 : (Nat → Int64)) (v59 : (Nat → Int64)), jo X 6 (0, 0) (jQV X (fun (u : (Nat → Int32) × (Nat → Int64) × (Nat → Int64)) => [(h_, .inr (5, [.ref h_rules, .ref h_input, .ref h_weights, .ref h_words])), (h_rules, .inr (6, [.ref h_rules_codes, .int c_rules_count])), (h_rules_codes, .inl (tc.1, 24, .inl c_rules_codes)), (h_input, .inr (3, [.ref h_input_terminals, .int c_input_length])), (h_input_terminals, .inl (tc.1, 40, .inl c_input_terminals)), (h_weights, .inl (tc.1, 8, .inl c_weights)), (h_words, .inr (10, [.ref h_words_costs, .ref h_words_highs, .ref h_words_lows])), (h_words_costs, .inl (tc.1, 1469, .inl u.1)), (h_words_highs, .inl (tc.2.1, 1469, .inr (.inl u.2.1))), (h_words_lows, .inl (tc.2.1, 1469, .inr (.inl u.2.2)))])) (k46 v57 v58 v59) [(h_, .inr (5, [.ref h_rules, .ref h_input, .ref h_weights, .ref h_words])), (h_rules, .inr (6, [.ref h_rules_codes, .int c_rules_count])), (h_rules_codes, .inl (tc.1, 24, .inl c_rules_codes)), (h_input, .inr (3, [.ref h_input_terminals, .int c_input_length])), (h_input_terminals, .inl (tc.1, 40, .inl c_input_terminals)), (h_weights, .inl (tc.1, 8, .inl c_weights)), (h_words, .inr (10, [.ref h_words_costs, .ref h_words_highs, .ref h_words_lows])), (h_words_costs, .inl (tc.1, 1469, .inl v57)), (h_words_highs, .inl (tc.2.1, 1469, .inr (.inl v58))), (h_words_lows, .inl (tc.2.1, 1469, .inr (.inl v59)))] 36 [(0, .ref h_), (1, .int p1), (2, .int p2)] []) (rc51 : Int32 → (Nat → Int32) → (Nat → Int64) → (Nat → Int64) → Option ((Nat → Int32) × (Nat → Int64) × (Nat → Int64))) (hrc51 : ∀ (v47 : Int32) (v48 : (Nat → Int32)) (v49 : (Nat → Int64)) (v50 : (Nat → Int64)), jo X 6 (0, 0) (jQV X (fun (u : (Nat → Int32) × (Nat → Int64) × (Nat → Int64)) => [(h_, .inr (5, [.ref h_rules, .ref h_input, .ref h_weights, .ref h_words])), (h_rules, .inr (6, [.ref h_rules_codes, .int c_rules_count])), (h_rules_codes, .inl (tc.1, 24, .inl c_rules_codes)), (h_input, .inr (3, [.ref h_input_terminals, .int c_input_length])), (h_input_terminals, .inl (tc.1, 40, .inl c_input_terminals)), (h_weights, .inl (tc.1, 8, .inl c_weights)), (h_words, .inr (10, [.ref h_words_costs, .ref h_words_highs, .ref h_words_lows])), (h_words_costs, .inl (tc.1, 1469, .inl u.1)), (h_words_highs, .inl (tc.2.1, 1469, .inr (.inl u.2.1))), (h_words_lows, .inl (tc.2.1, 1469, .inr (.inl u.2.2)))])) (rc51 v47 v48 v49 v50) [(h_, .inr (5, [.ref h_rules, .ref h_input, .ref h_weights, .ref h_words])), (h_rules, .inr (6, [.ref h_rules_codes, .int c_rules_count])), (h_rules_codes, .inl (tc.1, 24, .inl c_rules_codes)), (h_input, .inr (3, [.ref h_input_terminals, .int c_input_length])), (h_input_terminals, .inl (tc.1, 40, .inl c_input_terminals)), (h_weights, .inl (tc.1, 8, .inl c_weights)), (h_words, .inr (10, [.ref h_words_costs, .ref h_words_highs, .ref h_words_lows])), (h_words_costs, .inl (tc.1, 1469, .inl v48)), (h_words_highs, .inl (tc.2.1, 1469, .inr (.inl v49))), (h_words_lows, .inl (tc.2.1, 1469, .inr (.inl v50)))] 8 [(0, .ref h_), (1, .int p1), (2, .int p2), (3, .int v47)] []) (v47 : Int32) (v48 : (Nat → Int32)) (v49 : (Nat → Int64)) (v50 : (Nat → Int64)) : jo X 6 (0, 0) (jQV X (fun (u : (Nat → Int32) × (Nat → Int64) × (Nat → Int64)) => [(h_, .inr (5, [.ref h_rules, .ref h_input, .ref h_weights, .ref h_words])), (h_rules, .inr (6, [.ref h_rules_codes, .int c_rules_count])), (h_rules_codes, .inl (tc.1, 24, .inl c_rules_codes)), (h_input, .inr (3, [.ref h_input_terminals, .int c_input_length])), (h_input_terminals, .inl (tc.1, 40, .inl c_input_terminals)), (h_weights, .inl (tc.1, 8, .inl c_weights)), (h_words, .inr (10, [.ref h_words_costs, .ref h_words_highs, .ref h_words_lows])), (h_words_costs, .inl (tc.1, 1469, .inl u.1)), (h_words_highs, .inl (tc.2.1, 1469, .inr (.inl u.2.1))), (h_words_lows, .inl (tc.2.1, 1469, .inr (.inl u.2.2)))])) (bX5_findWords_8 p1 p2 k46 rc51 v47 v48 v49 v50) [(h_, .inr (5, [.ref h_rules, .ref h_input, .ref h_weights, .ref h_words])), (h_rules, .inr (6, [.ref h_rules_codes, .int c_rules_count])), (h_rules_codes, .inl (tc.1, 24, .inl c_rules_codes)), (h_input, .inr (3, [.ref h_input_terminals, .int c_input_length])), (h_input_terminals, .inl (tc.1, 40, .inl c_input_terminals)), (h_weights, .inl (tc.1, 8, .inl c_weights)), (h_words, .inr (10, [.ref h_words_costs, .ref h_words_highs, .ref h_words_lows])), (h_words_costs, .inl (tc.1, 1469, .inl v48)), (h_words_highs, .inl (tc.2.1, 1469, .inr (.inl v49))), (h_words_lows, .inl (tc.2.1, 1469, .inr (.inl v50)))] 8 [(0, .ref h_), (1, .int p1), (2, .int p2), (3, .int v47)] [] := by
  unfold bX5_findWords_8
  refine j_iload C d5_findWords_8 3 rfl ?_
  refine j_const C d5_findWords_9 ?_
  refine j_icmp_ge C d5_findWords_11 ?_ ?_
  · exact j_sub [0, 1, 2] rfl (hk46 _ _ _)
  · refine j_aload C d5_findWords_14 0 rfl ?_
    refine j_get C d5_findWords_15 fl5_20 0 rfl rfl ?_
    refine j_iload C d5_findWords_18 1 rfl ?_
    refine j_iload C d5_findWords_19 2 rfl ?_
    refine j_const C d5_findWords_20 ?_
    refine j_iload C d5_findWords_22 3 rfl ?_
    refine j_iadd C d5_findWords_23 ?_
    refine j_callSI0 (As := [.int p1, .int p2, .int ((10 : Int32) + v47)]) C d5_findWords_24 ms5_48 (kX5_wordOf _ _ tc p1 p2 ((10 : Int32) + v47)) ⟨rfl, rfl, Nat.le_of_ble_eq_true rfl, Nat.le_of_ble_eq_true rfl⟩ rfl [] rfl rfl rfl (Nat.le_of_ble_eq_true rfl) (fun x52 => ?_)
    refine j_callVV3 (As := [.int x52]) C d5_findWords_27 mv5_66 (kX10_putNone _ _ tc 1469 h_words h_words_costs h_words_highs h_words_lows v48 v49 v50 x52) ⟨rfl, rfl, Nat.le_of_ble_eq_true rfl, Nat.le_of_ble_eq_true rfl⟩ rfl 6 rfl [6, 7, 8, 9] rfl rfl rfl (Nat.le_of_ble_eq_true rfl) (fun o53 o54 o55 => [(h_, .inr (5, [.ref h_rules, .ref h_input, .ref h_weights, .ref h_words])), (h_rules, .inr (6, [.ref h_rules_codes, .int c_rules_count])), (h_rules_codes, .inl (tc.1, 24, .inl c_rules_codes)), (h_input, .inr (3, [.ref h_input_terminals, .int c_input_length])), (h_input_terminals, .inl (tc.1, 40, .inl c_input_terminals)), (h_weights, .inl (tc.1, 8, .inl c_weights)), (h_words, .inr (10, [.ref h_words_costs, .ref h_words_highs, .ref h_words_lows])), (h_words_costs, .inl (tc.1, 1469, .inl o53)), (h_words_highs, .inl (tc.2.1, 1469, .inr (.inl o54))), (h_words_lows, .inl (tc.2.1, 1469, .inr (.inl o55)))]) (fun _ => rfl) (fun _ => rfl) (fun _ _ _ => rfl) (fun o53 o54 o55 => ?_)
    refine j_iincN C (fun x56 => [(3, .int x56), (0, .ref h_), (1, .int p1), (2, .int p2)]) d5_findWords_30 3 rfl (by decide +kernel) (by decide) (fun _ => rfl) (fun x56 => ?_)
    refine j_goto C d5_findWords_33 ?_
    exact j_sub [1, 2, 3, 0] rfl (hrc51 _ _ _ _)

set_option maxHeartbeats 4000000 in
set_option maxRecDepth 100000 in
theorem kX5_findWords (l : Launch) (D : va_G) (tc : jTC) (N : Nat) (h_ h_rules h_rules_codes h_input h_input_terminals h_weights h_words h_words_costs h_words_highs h_words_lows : Nat) (c_rules_codes : (Nat → Int32)) (c_rules_count : Int32) (c_input_terminals : (Nat → Int32)) (c_input_length : Int32) (c_weights : (Nat → Int32)) (c_words_costs : (Nat → Int32)) (c_words_highs : (Nat → Int64)) (c_words_lows : (Nat → Int64)) (p1 : Int32) (p2 : Int32) : ctV l D tc yX5_findWords (Cond.code yX5_findWords cX5_findWords 6 none :: jtb) ({ frames := 4, cells := 0, slots := 0, locals := 106 } : Room) [.ref h_, .int p1, .int p2] [(h_, .inr (5, [.ref h_rules, .ref h_input, .ref h_weights, .ref h_words])), (h_rules, .inr (6, [.ref h_rules_codes, .int c_rules_count])), (h_rules_codes, .inl (tc.1, 24, .inl c_rules_codes)), (h_input, .inr (3, [.ref h_input_terminals, .int c_input_length])), (h_input_terminals, .inl (tc.1, 40, .inl c_input_terminals)), (h_weights, .inl (tc.1, 8, .inl c_weights)), (h_words, .inr (10, [.ref h_words_costs, .ref h_words_highs, .ref h_words_lows])), (h_words_costs, .inl (tc.1, 1469, .inl c_words_costs)), (h_words_highs, .inl (tc.2.1, 1469, .inr (.inl c_words_highs))), (h_words_lows, .inl (tc.2.1, 1469, .inr (.inl c_words_lows)))] (fX5_findWords N c_rules_codes c_rules_count c_input_terminals c_input_length c_weights c_words_costs c_words_highs c_words_lows p1 p2) (fun (u : (Nat → Int32) × (Nat → Int64) × (Nat → Int64)) => [(h_, .inr (5, [.ref h_rules, .ref h_input, .ref h_weights, .ref h_words])), (h_rules, .inr (6, [.ref h_rules_codes, .int c_rules_count])), (h_rules_codes, .inl (tc.1, 24, .inl c_rules_codes)), (h_input, .inr (3, [.ref h_input_terminals, .int c_input_length])), (h_input_terminals, .inl (tc.1, 40, .inl c_input_terminals)), (h_weights, .inl (tc.1, 8, .inl c_weights)), (h_words, .inr (10, [.ref h_words_costs, .ref h_words_highs, .ref h_words_lows])), (h_words_costs, .inl (tc.1, 1469, .inl u.1)), (h_words_highs, .inl (tc.2.1, 1469, .inr (.inl u.2.1))), (h_words_lows, .inl (tc.2.1, 1469, .inr (.inl u.2.2)))]) := by
  refine ctV_of (lv0 := [(0, .ref h_), (1, .int p1), (2, .int p2)]) (by decide +kernel) (Nat.le_of_ble_eq_true rfl) rfl (fun X C => ?_)
  unfold fX5_findWords
  refine j_aload C d5_findWords_0 0 rfl ?_
  refine j_iload C d5_findWords_1 1 rfl ?_
  refine j_iload C d5_findWords_2 2 rfl ?_
  refine j_callVV3 (As := [.int p1, .int p2]) C d5_findWords_3 mv5_63 (kX5_putTerminals _ _ tc N h_ h_input h_input_terminals h_weights h_words h_words_costs h_words_highs h_words_lows (.ref h_rules) c_input_terminals c_input_length c_weights c_words_costs c_words_highs c_words_lows p1 p2) ⟨rfl, rfl, Nat.le_of_ble_eq_true rfl, Nat.le_of_ble_eq_true rfl⟩ rfl 0 rfl [0, 3, 4, 5, 6, 7, 8, 9] rfl rfl rfl (Nat.le_of_ble_eq_true rfl) (fun o1 o2 o3 => [(h_, .inr (5, [.ref h_rules, .ref h_input, .ref h_weights, .ref h_words])), (h_rules, .inr (6, [.ref h_rules_codes, .int c_rules_count])), (h_rules_codes, .inl (tc.1, 24, .inl c_rules_codes)), (h_input, .inr (3, [.ref h_input_terminals, .int c_input_length])), (h_input_terminals, .inl (tc.1, 40, .inl c_input_terminals)), (h_weights, .inl (tc.1, 8, .inl c_weights)), (h_words, .inr (10, [.ref h_words_costs, .ref h_words_highs, .ref h_words_lows])), (h_words_costs, .inl (tc.1, 1469, .inl o1)), (h_words_highs, .inl (tc.2.1, 1469, .inr (.inl o2))), (h_words_lows, .inl (tc.2.1, 1469, .inr (.inl o3)))]) (fun _ => rfl) (fun _ => rfl) (fun _ _ _ => rfl) (fun o1 o2 o3 => ?_)
  refine j_const C d5_findWords_6 ?_
  refine j_istore C d5_findWords_7 (by decide) (lv' := [(3, .int 0), (0, .ref h_), (1, .int p1), (2, .int p2)]) rfl ?_
  refine j_join3 36 (fun v4 v5 v6 => [(h_, .inr (5, [.ref h_rules, .ref h_input, .ref h_weights, .ref h_words])), (h_rules, .inr (6, [.ref h_rules_codes, .int c_rules_count])), (h_rules_codes, .inl (tc.1, 24, .inl c_rules_codes)), (h_input, .inr (3, [.ref h_input_terminals, .int c_input_length])), (h_input_terminals, .inl (tc.1, 40, .inl c_input_terminals)), (h_weights, .inl (tc.1, 8, .inl c_weights)), (h_words, .inr (10, [.ref h_words_costs, .ref h_words_highs, .ref h_words_lows])), (h_words_costs, .inl (tc.1, 1469, .inl v4)), (h_words_highs, .inl (tc.2.1, 1469, .inr (.inl v5))), (h_words_lows, .inl (tc.2.1, 1469, .inr (.inl v6)))]) (fun v4 v5 v6 => [(0, .ref h_), (1, .int p1), (2, .int p2)]) (fun v4 v5 v6 => []) (fun v4 v5 v6 => ?_) (fun k46 hk46 => ?_)
  · refine j_const C d5_findWords_36 ?_
    refine j_istore C d5_findWords_37 (by decide) (lv' := [(3, .int 1), (0, .ref h_), (1, .int p1), (2, .int p2)]) rfl ?_
    refine j_const C d5_findWords_38 ?_
    refine j_istore C d5_findWords_39 (by decide) (lv' := [(4, .int 0), (3, .int 1), (0, .ref h_), (1, .int p1), (2, .int p2)]) rfl ?_
    refine j_join3 111 (fun v7 v8 v9 => [(h_, .inr (5, [.ref h_rules, .ref h_input, .ref h_weights, .ref h_words])), (h_rules, .inr (6, [.ref h_rules_codes, .int c_rules_count])), (h_rules_codes, .inl (tc.1, 24, .inl c_rules_codes)), (h_input, .inr (3, [.ref h_input_terminals, .int c_input_length])), (h_input_terminals, .inl (tc.1, 40, .inl c_input_terminals)), (h_weights, .inl (tc.1, 8, .inl c_weights)), (h_words, .inr (10, [.ref h_words_costs, .ref h_words_highs, .ref h_words_lows])), (h_words_costs, .inl (tc.1, 1469, .inl v7)), (h_words_highs, .inl (tc.2.1, 1469, .inr (.inl v8))), (h_words_lows, .inl (tc.2.1, 1469, .inr (.inl v9)))]) (fun v7 v8 v9 => []) (fun v7 v8 v9 => []) (fun v7 v8 v9 => ?_) (fun k10 hk10 => ?_)
    · exact j_vret C d5_findWords_111 rfl
    · exact j_sub [2, 3, 4, 1, 0] rfl (j_loop5 (fun v11 v12 v13 v14 v15 => [(h_, .inr (5, [.ref h_rules, .ref h_input, .ref h_weights, .ref h_words])), (h_rules, .inr (6, [.ref h_rules_codes, .int c_rules_count])), (h_rules_codes, .inl (tc.1, 24, .inl c_rules_codes)), (h_input, .inr (3, [.ref h_input_terminals, .int c_input_length])), (h_input_terminals, .inl (tc.1, 40, .inl c_input_terminals)), (h_weights, .inl (tc.1, 8, .inl c_weights)), (h_words, .inr (10, [.ref h_words_costs, .ref h_words_highs, .ref h_words_lows])), (h_words_costs, .inl (tc.1, 1469, .inl v13)), (h_words_highs, .inl (tc.2.1, 1469, .inr (.inl v14))), (h_words_lows, .inl (tc.2.1, 1469, .inr (.inl v15)))]) (fun v11 v12 v13 v14 v15 => [(0, .ref h_), (1, .int p1), (2, .int p2), (3, .int v11), (4, .int v12)]) (fun rc16 hrc16 v11 v12 v13 v14 v15 => wX5_findWords_41 C N h_ h_rules h_rules_codes h_input h_input_terminals h_weights h_words h_words_costs h_words_highs h_words_lows p1 p2 c_rules_codes c_rules_count c_input_terminals c_input_length c_weights k10 hk10 rc16 hrc16 v11 v12 v13 v14 v15) N _ _ _ _ _)
  · exact j_sub [1, 2, 3, 0] rfl (j_loop4 (fun v47 v48 v49 v50 => [(h_, .inr (5, [.ref h_rules, .ref h_input, .ref h_weights, .ref h_words])), (h_rules, .inr (6, [.ref h_rules_codes, .int c_rules_count])), (h_rules_codes, .inl (tc.1, 24, .inl c_rules_codes)), (h_input, .inr (3, [.ref h_input_terminals, .int c_input_length])), (h_input_terminals, .inl (tc.1, 40, .inl c_input_terminals)), (h_weights, .inl (tc.1, 8, .inl c_weights)), (h_words, .inr (10, [.ref h_words_costs, .ref h_words_highs, .ref h_words_lows])), (h_words_costs, .inl (tc.1, 1469, .inl v48)), (h_words_highs, .inl (tc.2.1, 1469, .inr (.inl v49))), (h_words_lows, .inl (tc.2.1, 1469, .inr (.inl v50)))]) (fun v47 v48 v49 v50 => [(0, .ref h_), (1, .int p1), (2, .int p2), (3, .int v47)]) (fun rc51 hrc51 v47 v48 v49 v50 => wX5_findWords_8 C h_ h_rules h_rules_codes h_input h_input_terminals h_weights h_words h_words_costs h_words_highs h_words_lows p1 p2 c_rules_codes c_rules_count c_input_terminals c_input_length c_weights k46 hk46 rc51 hrc51 v47 v48 v49 v50) N _ _ _ _)

theorem d10_lengthOf_0 : jda cX10_lengthOf 0 0 1 := Or.inl ⟨0, by decide +kernel⟩
theorem d10_lengthOf_1 : jdi cX10_lengthOf 1 1 2 := Or.inl ⟨1, by decide +kernel⟩
theorem d10_lengthOf_2 : jd cX10_lengthOf 2 (.invokevirtual 29) 3 5 := by decide +kernel
theorem d10_lengthOf_5 : jdb cX10_lengthOf 5 (.ifCond .eq 15) 15 20 8 := by decide +kernel
theorem d10_lengthOf_8 : jda cX10_lengthOf 8 0 9 := Or.inl ⟨0, by decide +kernel⟩
theorem d10_lengthOf_9 : jd cX10_lengthOf 9 (.getfield 17) 3 12 := by decide +kernel
theorem d10_lengthOf_12 : jdi cX10_lengthOf 12 1 13 := Or.inl ⟨1, by decide +kernel⟩
theorem d10_lengthOf_13 : jd cX10_lengthOf 13 (.iaload) 1 14 := by decide +kernel
theorem d10_lengthOf_14 : jdk cX10_lengthOf 14 10 16 := Or.inr (Or.inl ⟨10, by decide +kernel⟩)
theorem d10_lengthOf_16 : jd cX10_lengthOf 16 (.ishr) 1 17 := by decide +kernel
theorem d10_lengthOf_17 : jdb cX10_lengthOf 17 (.goto 5) 5 22 20 := by decide +kernel
theorem d10_lengthOf_20 : jdk cX10_lengthOf 20 (-2) 22 := Or.inr (Or.inl ⟨(-2), by decide +kernel⟩)
theorem d10_lengthOf_22 : decode cX10_lengthOf 22 = .ok (.ireturn, 1) := by decide +kernel
set_option maxHeartbeats 4000000 in
set_option maxRecDepth 100000 in
theorem kX10_lengthOf (l : Launch) (D : va_G) (tc : jTC) (n : Nat) (h_ h_costs : Nat) (g_highs g_lows : Value) (c_costs : (Nat → Int32)) (p1 : Int32) : ctI0 l D tc yX10_lengthOf (Cond.code yX10_lengthOf cX10_lengthOf 2 (some .int) :: jtb) ({ frames := 1, cells := 0, slots := 0, locals := 21 } : Room) [.ref h_, .int p1] [(h_, .inr (10, [.ref h_costs, g_highs, g_lows])), (h_costs, .inl (tc.1, n, .inl c_costs))] (fX10_lengthOf n c_costs p1) := by
  refine ctI0_of (lv0 := [(0, .ref h_), (1, .int p1)]) (by decide +kernel) (Nat.le_of_ble_eq_true rfl) rfl (fun X C => ?_)
  unfold fX10_lengthOf
  refine j_aload C d10_lengthOf_0 0 rfl ?_
  refine j_iload C d10_lengthOf_1 1 rfl ?_
  refine j_callVI0 (As := [.int p1]) C d10_lengthOf_2 mv10_29 (kX10_exists _ _ tc n h_ h_costs g_highs g_lows c_costs p1) ⟨rfl, rfl, Nat.le_of_ble_eq_true rfl, Nat.le_of_ble_eq_true rfl⟩ rfl 0 rfl [0, 1] rfl rfl rfl (Nat.le_of_ble_eq_true rfl) (fun x1 => ?_)
  refine j_join 22 (fun v2 => [(h_, .inr (10, [.ref h_costs, g_highs, g_lows])), (h_costs, .inl (tc.1, n, .inl c_costs))]) (fun v2 => []) (fun v2 => [.int v2]) (fun v2 => ?_) (fun k3 hk3 => ?_)
  · exact j_iret0 C d10_lengthOf_22
  · refine j_if_eq C d10_lengthOf_5 ?_ ?_
    · refine j_const C d10_lengthOf_20 ?_
      exact j_sub [] rfl (hk3 _)
    · refine j_aload C d10_lengthOf_8 0 rfl ?_
      refine j_get C d10_lengthOf_9 fl10_17 0 rfl rfl ?_
      refine j_iload C d10_lengthOf_12 1 rfl ?_
      refine j_iald C d10_lengthOf_13 1 rfl (fun x4 => ?_)
      refine j_const C d10_lengthOf_14 ?_
      refine j_ishr C d10_lengthOf_16 ?_
      refine j_goto C d10_lengthOf_17 ?_
      exact j_sub [] rfl (hk3 _)

theorem d5_findLeastInsertions_0 : jda cX5_findLeastInsertions 0 0 1 := Or.inl ⟨0, by decide +kernel⟩
theorem d5_findLeastInsertions_1 : jd cX5_findLeastInsertions 1 (.getfield 28) 3 4 := by decide +kernel
theorem d5_findLeastInsertions_4 : jd cX5_findLeastInsertions 4 (.getfield 32) 3 7 := by decide +kernel
theorem d5_findLeastInsertions_7 : jdk cX5_findLeastInsertions 7 8 9 := Or.inr (Or.inl ⟨8, by decide +kernel⟩)
theorem d5_findLeastInsertions_9 : jd cX5_findLeastInsertions 9 (.invokestatic 38) 3 12 := by decide +kernel
theorem d5_findLeastInsertions_12 : jds cX5_findLeastInsertions 12 1 13 := Or.inl ⟨1, by decide +kernel⟩
theorem d5_findLeastInsertions_13 : jdi cX5_findLeastInsertions 13 1 14 := Or.inl ⟨1, by decide +kernel⟩
theorem d5_findLeastInsertions_14 : jds cX5_findLeastInsertions 14 2 15 := Or.inl ⟨2, by decide +kernel⟩
theorem d5_findLeastInsertions_15 : jdi cX5_findLeastInsertions 15 2 16 := Or.inl ⟨2, by decide +kernel⟩
theorem d5_findLeastInsertions_16 : jdb cX5_findLeastInsertions 16 (.ifCond .lt 28) 28 44 19 := by decide +kernel
theorem d5_findLeastInsertions_19 : jdi cX5_findLeastInsertions 19 2 20 := Or.inl ⟨2, by decide +kernel⟩
theorem d5_findLeastInsertions_20 : jds cX5_findLeastInsertions 20 3 21 := Or.inl ⟨3, by decide +kernel⟩
theorem d5_findLeastInsertions_21 : jdi cX5_findLeastInsertions 21 3 22 := Or.inl ⟨3, by decide +kernel⟩
theorem d5_findLeastInsertions_22 : jdi cX5_findLeastInsertions 22 1 23 := Or.inl ⟨1, by decide +kernel⟩
theorem d5_findLeastInsertions_23 : jdb cX5_findLeastInsertions 23 (.if_icmp .gt 15) 15 38 26 := by decide +kernel
theorem d5_findLeastInsertions_26 : jda cX5_findLeastInsertions 26 0 27 := Or.inl ⟨0, by decide +kernel⟩
theorem d5_findLeastInsertions_27 : jdi cX5_findLeastInsertions 27 2 28 := Or.inl ⟨2, by decide +kernel⟩
theorem d5_findLeastInsertions_28 : jdi cX5_findLeastInsertions 28 3 29 := Or.inl ⟨3, by decide +kernel⟩
theorem d5_findLeastInsertions_29 : jd cX5_findLeastInsertions 29 (.invokevirtual 44) 3 32 := by decide +kernel
theorem d5_findLeastInsertions_32 : jd cX5_findLeastInsertions 32 (.iinc 3 1) 3 35 := by decide +kernel
theorem d5_findLeastInsertions_35 : jdb cX5_findLeastInsertions 35 (.goto (-14)) (-14) 21 38 := by decide +kernel
theorem d5_findLeastInsertions_38 : jd cX5_findLeastInsertions 38 (.iinc 2 (-1)) 3 41 := by decide +kernel
theorem d5_findLeastInsertions_41 : jdb cX5_findLeastInsertions 41 (.goto (-26)) (-26) 15 44 := by decide +kernel
theorem d5_findLeastInsertions_44 : jdk cX5_findLeastInsertions 44 0 45 := Or.inl ⟨0, by decide +kernel⟩
theorem d5_findLeastInsertions_45 : jdi cX5_findLeastInsertions 45 1 46 := Or.inl ⟨1, by decide +kernel⟩
theorem d5_findLeastInsertions_46 : jdk cX5_findLeastInsertions 46 10 48 := Or.inr (Or.inl ⟨10, by decide +kernel⟩)
theorem d5_findLeastInsertions_48 : jd cX5_findLeastInsertions 48 (.invokestatic 48) 3 51 := by decide +kernel
theorem d5_findLeastInsertions_51 : jds cX5_findLeastInsertions 51 2 52 := Or.inl ⟨2, by decide +kernel⟩
theorem d5_findLeastInsertions_52 : jda cX5_findLeastInsertions 52 0 53 := Or.inl ⟨0, by decide +kernel⟩
theorem d5_findLeastInsertions_53 : jd cX5_findLeastInsertions 53 (.getfield 20) 3 56 := by decide +kernel
theorem d5_findLeastInsertions_56 : jdi cX5_findLeastInsertions 56 2 57 := Or.inl ⟨2, by decide +kernel⟩
theorem d5_findLeastInsertions_57 : jd cX5_findLeastInsertions 57 (.invokevirtual 52) 3 60 := by decide +kernel
theorem d5_findLeastInsertions_60 : jdb cX5_findLeastInsertions 60 (.ifCond .ne 6) 6 66 63 := by decide +kernel
theorem d5_findLeastInsertions_63 : jdk cX5_findLeastInsertions 63 (-2) 65 := Or.inr (Or.inl ⟨(-2), by decide +kernel⟩)
theorem d5_findLeastInsertions_65 : decode cX5_findLeastInsertions 65 = .ok (.ireturn, 1) := by decide +kernel
theorem d5_findLeastInsertions_66 : jda cX5_findLeastInsertions 66 0 67 := Or.inl ⟨0, by decide +kernel⟩
theorem d5_findLeastInsertions_67 : jd cX5_findLeastInsertions 67 (.getfield 20) 3 70 := by decide +kernel
theorem d5_findLeastInsertions_70 : jdk cX5_findLeastInsertions 70 1468 73 := Or.inr (Or.inr ⟨1468, by decide +kernel⟩)
theorem d5_findLeastInsertions_73 : jdi cX5_findLeastInsertions 73 2 74 := Or.inl ⟨2, by decide +kernel⟩
theorem d5_findLeastInsertions_74 : jd cX5_findLeastInsertions 74 (.invokevirtual 56) 3 77 := by decide +kernel
theorem d5_findLeastInsertions_77 : jda cX5_findLeastInsertions 77 0 78 := Or.inl ⟨0, by decide +kernel⟩
theorem d5_findLeastInsertions_78 : jd cX5_findLeastInsertions 78 (.getfield 20) 3 81 := by decide +kernel
theorem d5_findLeastInsertions_81 : jdk cX5_findLeastInsertions 81 1468 84 := Or.inr (Or.inr ⟨1468, by decide +kernel⟩)
theorem d5_findLeastInsertions_84 : jd cX5_findLeastInsertions 84 (.invokevirtual 59) 3 87 := by decide +kernel
theorem d5_findLeastInsertions_87 : jdi cX5_findLeastInsertions 87 1 88 := Or.inl ⟨1, by decide +kernel⟩
theorem d5_findLeastInsertions_88 : jd cX5_findLeastInsertions 88 (.isub) 1 89 := by decide +kernel
theorem d5_findLeastInsertions_89 : decode cX5_findLeastInsertions 89 = .ok (.ireturn, 1) := by decide +kernel
set_option maxHeartbeats 4000000 in
set_option maxRecDepth 100000 in
theorem wX5_findLeastInsertions_21 {X : jC} {tc : jTC} (C : jx X cX5_findLeastInsertions 4 RX5 (some .int) tc ({ frames := 5, cells := 0, slots := 0, locals := 131 } : Room)) (N : Nat) (h_ h_rules h_rules_codes h_input h_input_terminals h_weights h_words h_words_costs h_words_highs h_words_lows : Nat) (c_rules_codes : (Nat → Int32)) (c_rules_count : Int32) (c_input_terminals : (Nat → Int32)) (c_input_length : Int32) (c_weights : (Nat → Int32)) (x1 : Int32) (v12 : Int32) (k21 : ((Nat → Int32) → (Nat → Int64) → (Nat → Int64) → Option (Int32 × (Nat → Int32) × (Nat → Int64) × (Nat → Int64)))) (hk21 : ∀ (v31 : (Nat → Int32)) (v32 : (Nat → Int64)) (v33 : (Nat → Int64)), jo X 4 (0, 0) (jQI X (fun (u : (Nat → Int32) × (Nat → Int64) × (Nat → Int64)) => [(h_, .inr (5, [.ref h_rules, .ref h_input, .ref h_weights, .ref h_words])), (h_rules, .inr (6, [.ref h_rules_codes, .int c_rules_count])), (h_rules_codes, .inl (tc.1, 24, .inl c_rules_codes)), (h_input, .inr (3, [.ref h_input_terminals, .int c_input_length])), (h_input_terminals, .inl (tc.1, 40, .inl c_input_terminals)), (h_weights, .inl (tc.1, 8, .inl c_weights)), (h_words, .inr (10, [.ref h_words_costs, .ref h_words_highs, .ref h_words_lows])), (h_words_costs, .inl (tc.1, 1469, .inl u.1)), (h_words_highs, .inl (tc.2.1, 1469, .inr (.inl u.2.1))), (h_words_lows, .inl (tc.2.1, 1469, .inr (.inl u.2.2)))])) (k21 v31 v32 v33) [(h_, .inr (5, [.ref h_rules, .ref h_input, .ref h_weights, .ref h_words])), (h_rules, .inr (6, [.ref h_rules_codes, .int c_rules_count])), (h_rules_codes, .inl (tc.1, 24, .inl c_rules_codes)), (h_input, .inr (3, [.ref h_input_terminals, .int c_input_length])), (h_input_terminals, .inl (tc.1, 40, .inl c_input_terminals)), (h_weights, .inl (tc.1, 8, .inl c_weights)), (h_words, .inr (10, [.ref h_words_costs, .ref h_words_highs, .ref h_words_lows])), (h_words_costs, .inl (tc.1, 1469, .inl v31)), (h_words_highs, .inl (tc.2.1, 1469, .inr (.inl v32))), (h_words_lows, .inl (tc.2.1, 1469, .inr (.inl v33)))] 38 [(0, .ref h_), (1, .int x1), (2, .int v12)] []) (rc26 : Int32 → (Nat → Int32) → (Nat → Int64) → (Nat → Int64) → Option (Int32 × (Nat → Int32) × (Nat → Int64) × (Nat → Int64))) (hrc26 : ∀ (v22 : Int32) (v23 : (Nat → Int32)) (v24 : (Nat → Int64)) (v25 : (Nat → Int64)), jo X 4 (0, 0) (jQI X (fun (u : (Nat → Int32) × (Nat → Int64) × (Nat → Int64)) => [(h_, .inr (5, [.ref h_rules, .ref h_input, .ref h_weights, .ref h_words])), (h_rules, .inr (6, [.ref h_rules_codes, .int c_rules_count])), (h_rules_codes, .inl (tc.1, 24, .inl c_rules_codes)), (h_input, .inr (3, [.ref h_input_terminals, .int c_input_length])), (h_input_terminals, .inl (tc.1, 40, .inl c_input_terminals)), (h_weights, .inl (tc.1, 8, .inl c_weights)), (h_words, .inr (10, [.ref h_words_costs, .ref h_words_highs, .ref h_words_lows])), (h_words_costs, .inl (tc.1, 1469, .inl u.1)), (h_words_highs, .inl (tc.2.1, 1469, .inr (.inl u.2.1))), (h_words_lows, .inl (tc.2.1, 1469, .inr (.inl u.2.2)))])) (rc26 v22 v23 v24 v25) [(h_, .inr (5, [.ref h_rules, .ref h_input, .ref h_weights, .ref h_words])), (h_rules, .inr (6, [.ref h_rules_codes, .int c_rules_count])), (h_rules_codes, .inl (tc.1, 24, .inl c_rules_codes)), (h_input, .inr (3, [.ref h_input_terminals, .int c_input_length])), (h_input_terminals, .inl (tc.1, 40, .inl c_input_terminals)), (h_weights, .inl (tc.1, 8, .inl c_weights)), (h_words, .inr (10, [.ref h_words_costs, .ref h_words_highs, .ref h_words_lows])), (h_words_costs, .inl (tc.1, 1469, .inl v23)), (h_words_highs, .inl (tc.2.1, 1469, .inr (.inl v24))), (h_words_lows, .inl (tc.2.1, 1469, .inr (.inl v25)))] 21 [(0, .ref h_), (1, .int x1), (2, .int v12), (3, .int v22)] []) (v22 : Int32) (v23 : (Nat → Int32)) (v24 : (Nat → Int64)) (v25 : (Nat → Int64)) : jo X 4 (0, 0) (jQI X (fun (u : (Nat → Int32) × (Nat → Int64) × (Nat → Int64)) => [(h_, .inr (5, [.ref h_rules, .ref h_input, .ref h_weights, .ref h_words])), (h_rules, .inr (6, [.ref h_rules_codes, .int c_rules_count])), (h_rules_codes, .inl (tc.1, 24, .inl c_rules_codes)), (h_input, .inr (3, [.ref h_input_terminals, .int c_input_length])), (h_input_terminals, .inl (tc.1, 40, .inl c_input_terminals)), (h_weights, .inl (tc.1, 8, .inl c_weights)), (h_words, .inr (10, [.ref h_words_costs, .ref h_words_highs, .ref h_words_lows])), (h_words_costs, .inl (tc.1, 1469, .inl u.1)), (h_words_highs, .inl (tc.2.1, 1469, .inr (.inl u.2.1))), (h_words_lows, .inl (tc.2.1, 1469, .inr (.inl u.2.2)))])) (bX5_findLeastInsertions_21 N c_rules_codes c_rules_count c_input_terminals c_input_length c_weights x1 v12 k21 rc26 v22 v23 v24 v25) [(h_, .inr (5, [.ref h_rules, .ref h_input, .ref h_weights, .ref h_words])), (h_rules, .inr (6, [.ref h_rules_codes, .int c_rules_count])), (h_rules_codes, .inl (tc.1, 24, .inl c_rules_codes)), (h_input, .inr (3, [.ref h_input_terminals, .int c_input_length])), (h_input_terminals, .inl (tc.1, 40, .inl c_input_terminals)), (h_weights, .inl (tc.1, 8, .inl c_weights)), (h_words, .inr (10, [.ref h_words_costs, .ref h_words_highs, .ref h_words_lows])), (h_words_costs, .inl (tc.1, 1469, .inl v23)), (h_words_highs, .inl (tc.2.1, 1469, .inr (.inl v24))), (h_words_lows, .inl (tc.2.1, 1469, .inr (.inl v25)))] 21 [(0, .ref h_), (1, .int x1), (2, .int v12), (3, .int v22)] [] := by
  unfold bX5_findLeastInsertions_21
  refine j_iload C d5_findLeastInsertions_21 3 rfl ?_
  refine j_iload C d5_findLeastInsertions_22 1 rfl ?_
  refine j_icmp_gt C d5_findLeastInsertions_23 ?_ ?_
  · exact j_sub [0, 1, 2] rfl (hk21 _ _ _)
  · refine j_aload C d5_findLeastInsertions_26 0 rfl ?_
    refine j_iload C d5_findLeastInsertions_27 2 rfl ?_
    refine j_iload C d5_findLeastInsertions_28 3 rfl ?_
    refine j_callVV3 (As := [.int v12, .int v22]) C d5_findLeastInsertions_29 mv5_44 (kX5_findWords _ _ tc N h_ h_rules h_rules_codes h_input h_input_terminals h_weights h_words h_words_costs h_words_highs h_words_lows c_rules_codes c_rules_count c_input_terminals c_input_length c_weights v23 v24 v25 v12 v22) ⟨rfl, rfl, Nat.le_of_ble_eq_true rfl, Nat.le_of_ble_eq_true rfl⟩ rfl 0 rfl [0, 1, 2, 3, 4, 5, 6, 7, 8, 9] rfl rfl rfl (Nat.le_of_ble_eq_true rfl) (fun o27 o28 o29 => [(h_, .inr (5, [.ref h_rules, .ref h_input, .ref h_weights, .ref h_words])), (h_rules, .inr (6, [.ref h_rules_codes, .int c_rules_count])), (h_rules_codes, .inl (tc.1, 24, .inl c_rules_codes)), (h_input, .inr (3, [.ref h_input_terminals, .int c_input_length])), (h_input_terminals, .inl (tc.1, 40, .inl c_input_terminals)), (h_weights, .inl (tc.1, 8, .inl c_weights)), (h_words, .inr (10, [.ref h_words_costs, .ref h_words_highs, .ref h_words_lows])), (h_words_costs, .inl (tc.1, 1469, .inl o27)), (h_words_highs, .inl (tc.2.1, 1469, .inr (.inl o28))), (h_words_lows, .inl (tc.2.1, 1469, .inr (.inl o29)))]) (fun _ => rfl) (fun _ => rfl) (fun _ _ _ => rfl) (fun o27 o28 o29 => ?_)
    refine j_iincN C (fun x30 => [(3, .int x30), (0, .ref h_), (1, .int x1), (2, .int v12)]) d5_findLeastInsertions_32 3 rfl (by decide +kernel) (by decide) (fun _ => rfl) (fun x30 => ?_)
    refine j_goto C d5_findLeastInsertions_35 ?_
    exact j_sub [1, 2, 3, 0] rfl (hrc26 _ _ _ _)

set_option maxHeartbeats 4000000 in
set_option maxRecDepth 100000 in
theorem wX5_findLeastInsertions_15 {X : jC} {tc : jTC} (C : jx X cX5_findLeastInsertions 4 RX5 (some .int) tc ({ frames := 5, cells := 0, slots := 0, locals := 131 } : Room)) (N : Nat) (h_ h_rules h_rules_codes h_input h_input_terminals h_weights h_words h_words_costs h_words_highs h_words_lows : Nat) (c_rules_codes : (Nat → Int32)) (c_rules_count : Int32) (c_input_terminals : (Nat → Int32)) (c_input_length : Int32) (c_weights : (Nat → Int32)) (x1 : Int32) (k11 : ((Nat → Int32) → (Nat → Int64) → (Nat → Int64) → Option (Int32 × (Nat → Int32) × (Nat → Int64) × (Nat → Int64)))) (hk11 : ∀ (v34 : (Nat → Int32)) (v35 : (Nat → Int64)) (v36 : (Nat → Int64)), jo X 4 (0, 0) (jQI X (fun (u : (Nat → Int32) × (Nat → Int64) × (Nat → Int64)) => [(h_, .inr (5, [.ref h_rules, .ref h_input, .ref h_weights, .ref h_words])), (h_rules, .inr (6, [.ref h_rules_codes, .int c_rules_count])), (h_rules_codes, .inl (tc.1, 24, .inl c_rules_codes)), (h_input, .inr (3, [.ref h_input_terminals, .int c_input_length])), (h_input_terminals, .inl (tc.1, 40, .inl c_input_terminals)), (h_weights, .inl (tc.1, 8, .inl c_weights)), (h_words, .inr (10, [.ref h_words_costs, .ref h_words_highs, .ref h_words_lows])), (h_words_costs, .inl (tc.1, 1469, .inl u.1)), (h_words_highs, .inl (tc.2.1, 1469, .inr (.inl u.2.1))), (h_words_lows, .inl (tc.2.1, 1469, .inr (.inl u.2.2)))])) (k11 v34 v35 v36) [(h_, .inr (5, [.ref h_rules, .ref h_input, .ref h_weights, .ref h_words])), (h_rules, .inr (6, [.ref h_rules_codes, .int c_rules_count])), (h_rules_codes, .inl (tc.1, 24, .inl c_rules_codes)), (h_input, .inr (3, [.ref h_input_terminals, .int c_input_length])), (h_input_terminals, .inl (tc.1, 40, .inl c_input_terminals)), (h_weights, .inl (tc.1, 8, .inl c_weights)), (h_words, .inr (10, [.ref h_words_costs, .ref h_words_highs, .ref h_words_lows])), (h_words_costs, .inl (tc.1, 1469, .inl v34)), (h_words_highs, .inl (tc.2.1, 1469, .inr (.inl v35))), (h_words_lows, .inl (tc.2.1, 1469, .inr (.inl v36)))] 44 [(0, .ref h_), (1, .int x1)] []) (rc16 : Int32 → (Nat → Int32) → (Nat → Int64) → (Nat → Int64) → Option (Int32 × (Nat → Int32) × (Nat → Int64) × (Nat → Int64))) (hrc16 : ∀ (v12 : Int32) (v13 : (Nat → Int32)) (v14 : (Nat → Int64)) (v15 : (Nat → Int64)), jo X 4 (0, 0) (jQI X (fun (u : (Nat → Int32) × (Nat → Int64) × (Nat → Int64)) => [(h_, .inr (5, [.ref h_rules, .ref h_input, .ref h_weights, .ref h_words])), (h_rules, .inr (6, [.ref h_rules_codes, .int c_rules_count])), (h_rules_codes, .inl (tc.1, 24, .inl c_rules_codes)), (h_input, .inr (3, [.ref h_input_terminals, .int c_input_length])), (h_input_terminals, .inl (tc.1, 40, .inl c_input_terminals)), (h_weights, .inl (tc.1, 8, .inl c_weights)), (h_words, .inr (10, [.ref h_words_costs, .ref h_words_highs, .ref h_words_lows])), (h_words_costs, .inl (tc.1, 1469, .inl u.1)), (h_words_highs, .inl (tc.2.1, 1469, .inr (.inl u.2.1))), (h_words_lows, .inl (tc.2.1, 1469, .inr (.inl u.2.2)))])) (rc16 v12 v13 v14 v15) [(h_, .inr (5, [.ref h_rules, .ref h_input, .ref h_weights, .ref h_words])), (h_rules, .inr (6, [.ref h_rules_codes, .int c_rules_count])), (h_rules_codes, .inl (tc.1, 24, .inl c_rules_codes)), (h_input, .inr (3, [.ref h_input_terminals, .int c_input_length])), (h_input_terminals, .inl (tc.1, 40, .inl c_input_terminals)), (h_weights, .inl (tc.1, 8, .inl c_weights)), (h_words, .inr (10, [.ref h_words_costs, .ref h_words_highs, .ref h_words_lows])), (h_words_costs, .inl (tc.1, 1469, .inl v13)), (h_words_highs, .inl (tc.2.1, 1469, .inr (.inl v14))), (h_words_lows, .inl (tc.2.1, 1469, .inr (.inl v15)))] 15 [(0, .ref h_), (1, .int x1), (2, .int v12)] []) (v12 : Int32) (v13 : (Nat → Int32)) (v14 : (Nat → Int64)) (v15 : (Nat → Int64)) : jo X 4 (0, 0) (jQI X (fun (u : (Nat → Int32) × (Nat → Int64) × (Nat → Int64)) => [(h_, .inr (5, [.ref h_rules, .ref h_input, .ref h_weights, .ref h_words])), (h_rules, .inr (6, [.ref h_rules_codes, .int c_rules_count])), (h_rules_codes, .inl (tc.1, 24, .inl c_rules_codes)), (h_input, .inr (3, [.ref h_input_terminals, .int c_input_length])), (h_input_terminals, .inl (tc.1, 40, .inl c_input_terminals)), (h_weights, .inl (tc.1, 8, .inl c_weights)), (h_words, .inr (10, [.ref h_words_costs, .ref h_words_highs, .ref h_words_lows])), (h_words_costs, .inl (tc.1, 1469, .inl u.1)), (h_words_highs, .inl (tc.2.1, 1469, .inr (.inl u.2.1))), (h_words_lows, .inl (tc.2.1, 1469, .inr (.inl u.2.2)))])) (bX5_findLeastInsertions_15 N c_rules_codes c_rules_count c_input_terminals c_input_length c_weights x1 k11 rc16 v12 v13 v14 v15) [(h_, .inr (5, [.ref h_rules, .ref h_input, .ref h_weights, .ref h_words])), (h_rules, .inr (6, [.ref h_rules_codes, .int c_rules_count])), (h_rules_codes, .inl (tc.1, 24, .inl c_rules_codes)), (h_input, .inr (3, [.ref h_input_terminals, .int c_input_length])), (h_input_terminals, .inl (tc.1, 40, .inl c_input_terminals)), (h_weights, .inl (tc.1, 8, .inl c_weights)), (h_words, .inr (10, [.ref h_words_costs, .ref h_words_highs, .ref h_words_lows])), (h_words_costs, .inl (tc.1, 1469, .inl v13)), (h_words_highs, .inl (tc.2.1, 1469, .inr (.inl v14))), (h_words_lows, .inl (tc.2.1, 1469, .inr (.inl v15)))] 15 [(0, .ref h_), (1, .int x1), (2, .int v12)] [] := by
  unfold bX5_findLeastInsertions_15
  refine j_iload C d5_findLeastInsertions_15 2 rfl ?_
  refine j_if_lt C d5_findLeastInsertions_16 ?_ ?_
  · exact j_sub [0, 1] rfl (hk11 _ _ _)
  · refine j_iload C d5_findLeastInsertions_19 2 rfl ?_
    refine j_istore C d5_findLeastInsertions_20 (by decide) (lv' := [(3, .int v12), (0, .ref h_), (1, .int x1), (2, .int v12)]) rfl ?_
    refine j_join3 38 (fun v17 v18 v19 => [(h_, .inr (5, [.ref h_rules, .ref h_input, .ref h_weights, .ref h_words])), (h_rules, .inr (6, [.ref h_rules_codes, .int c_rules_count])), (h_rules_codes, .inl (tc.1, 24, .inl c_rules_codes)), (h_input, .inr (3, [.ref h_input_terminals, .int c_input_length])), (h_input_terminals, .inl (tc.1, 40, .inl c_input_terminals)), (h_weights, .inl (tc.1, 8, .inl c_weights)), (h_words, .inr (10, [.ref h_words_costs, .ref h_words_highs, .ref h_words_lows])), (h_words_costs, .inl (tc.1, 1469, .inl v17)), (h_words_highs, .inl (tc.2.1, 1469, .inr (.inl v18))), (h_words_lows, .inl (tc.2.1, 1469, .inr (.inl v19)))]) (fun v17 v18 v19 => [(0, .ref h_), (1, .int x1), (2, .int v12)]) (fun v17 v18 v19 => []) (fun v17 v18 v19 => ?_) (fun k21 hk21 => ?_)
    · refine j_iincN C (fun x20 => [(2, .int x20), (0, .ref h_), (1, .int x1)]) d5_findLeastInsertions_38 2 rfl (by decide +kernel) (by decide) (fun _ => rfl) (fun x20 => ?_)
      refine j_goto C d5_findLeastInsertions_41 ?_
      exact j_sub [1, 2, 0] rfl (hrc16 _ _ _ _)
    · exact j_sub [1, 2, 3, 0] rfl (j_loop4 (fun v22 v23 v24 v25 => [(h_, .inr (5, [.ref h_rules, .ref h_input, .ref h_weights, .ref h_words])), (h_rules, .inr (6, [.ref h_rules_codes, .int c_rules_count])), (h_rules_codes, .inl (tc.1, 24, .inl c_rules_codes)), (h_input, .inr (3, [.ref h_input_terminals, .int c_input_length])), (h_input_terminals, .inl (tc.1, 40, .inl c_input_terminals)), (h_weights, .inl (tc.1, 8, .inl c_weights)), (h_words, .inr (10, [.ref h_words_costs, .ref h_words_highs, .ref h_words_lows])), (h_words_costs, .inl (tc.1, 1469, .inl v23)), (h_words_highs, .inl (tc.2.1, 1469, .inr (.inl v24))), (h_words_lows, .inl (tc.2.1, 1469, .inr (.inl v25)))]) (fun v22 v23 v24 v25 => [(0, .ref h_), (1, .int x1), (2, .int v12), (3, .int v22)]) (fun rc26 hrc26 v22 v23 v24 v25 => wX5_findLeastInsertions_21 C N h_ h_rules h_rules_codes h_input h_input_terminals h_weights h_words h_words_costs h_words_highs h_words_lows c_rules_codes c_rules_count c_input_terminals c_input_length c_weights x1 v12 k21 hk21 rc26 hrc26 v22 v23 v24 v25) N _ _ _ _)

set_option maxHeartbeats 4000000 in
set_option maxRecDepth 100000 in
theorem kX5_findLeastInsertions (l : Launch) (D : va_G) (tc : jTC) (N : Nat) (h_ h_rules h_rules_codes h_input h_input_terminals h_weights h_words h_words_costs h_words_highs h_words_lows : Nat) (c_rules_codes : (Nat → Int32)) (c_rules_count : Int32) (c_input_terminals : (Nat → Int32)) (c_input_length : Int32) (c_weights : (Nat → Int32)) (c_words_costs : (Nat → Int32)) (c_words_highs : (Nat → Int64)) (c_words_lows : (Nat → Int64)) : ctI l D tc yX5_findLeastInsertions (Cond.code yX5_findLeastInsertions cX5_findLeastInsertions 4 (some .int) :: jtb) ({ frames := 5, cells := 0, slots := 0, locals := 131 } : Room) [.ref h_] [(h_, .inr (5, [.ref h_rules, .ref h_input, .ref h_weights, .ref h_words])), (h_rules, .inr (6, [.ref h_rules_codes, .int c_rules_count])), (h_rules_codes, .inl (tc.1, 24, .inl c_rules_codes)), (h_input, .inr (3, [.ref h_input_terminals, .int c_input_length])), (h_input_terminals, .inl (tc.1, 40, .inl c_input_terminals)), (h_weights, .inl (tc.1, 8, .inl c_weights)), (h_words, .inr (10, [.ref h_words_costs, .ref h_words_highs, .ref h_words_lows])), (h_words_costs, .inl (tc.1, 1469, .inl c_words_costs)), (h_words_highs, .inl (tc.2.1, 1469, .inr (.inl c_words_highs))), (h_words_lows, .inl (tc.2.1, 1469, .inr (.inl c_words_lows)))] (fX5_findLeastInsertions N c_rules_codes c_rules_count c_input_terminals c_input_length c_weights c_words_costs c_words_highs c_words_lows) (fun (u : (Nat → Int32) × (Nat → Int64) × (Nat → Int64)) => [(h_, .inr (5, [.ref h_rules, .ref h_input, .ref h_weights, .ref h_words])), (h_rules, .inr (6, [.ref h_rules_codes, .int c_rules_count])), (h_rules_codes, .inl (tc.1, 24, .inl c_rules_codes)), (h_input, .inr (3, [.ref h_input_terminals, .int c_input_length])), (h_input_terminals, .inl (tc.1, 40, .inl c_input_terminals)), (h_weights, .inl (tc.1, 8, .inl c_weights)), (h_words, .inr (10, [.ref h_words_costs, .ref h_words_highs, .ref h_words_lows])), (h_words_costs, .inl (tc.1, 1469, .inl u.1)), (h_words_highs, .inl (tc.2.1, 1469, .inr (.inl u.2.1))), (h_words_lows, .inl (tc.2.1, 1469, .inr (.inl u.2.2)))]) := by
  refine ctI_of (lv0 := [(0, .ref h_)]) (by decide +kernel) (Nat.le_of_ble_eq_true rfl) rfl (fun X C => ?_)
  unfold fX5_findLeastInsertions
  refine j_aload C d5_findLeastInsertions_0 0 rfl ?_
  refine j_get C d5_findLeastInsertions_1 fl5_28 0 rfl rfl ?_
  refine j_get C d5_findLeastInsertions_4 fl5_32 3 rfl rfl ?_
  refine j_const C d5_findLeastInsertions_7 ?_
  refine j_mmin C d5_findLeastInsertions_9 kj5_38 rfl ⟨Nat.le_of_ble_eq_true rfl, Nat.le_of_ble_eq_true rfl⟩ (Nat.le_of_ble_eq_true rfl) ?_
  refine j_leti (fun x1 => ?_)
  refine j_istore C d5_findLeastInsertions_12 (by decide) (lv' := [(1, .int x1), (0, .ref h_)]) rfl ?_
  refine j_iload C d5_findLeastInsertions_13 0 rfl ?_
  refine j_istore C d5_findLeastInsertions_14 (by decide) (lv' := [(2, .int x1), (1, .int x1), (0, .ref h_)]) rfl ?_
  refine j_join3 44 (fun v2 v3 v4 => [(h_, .inr (5, [.ref h_rules, .ref h_input, .ref h_weights, .ref h_words])), (h_rules, .inr (6, [.ref h_rules_codes, .int c_rules_count])), (h_rules_codes, .inl (tc.1, 24, .inl c_rules_codes)), (h_input, .inr (3, [.ref h_input_terminals, .int c_input_length])), (h_input_terminals, .inl (tc.1, 40, .inl c_input_terminals)), (h_weights, .inl (tc.1, 8, .inl c_weights)), (h_words, .inr (10, [.ref h_words_costs, .ref h_words_highs, .ref h_words_lows])), (h_words_costs, .inl (tc.1, 1469, .inl v2)), (h_words_highs, .inl (tc.2.1, 1469, .inr (.inl v3))), (h_words_lows, .inl (tc.2.1, 1469, .inr (.inl v4)))]) (fun v2 v3 v4 => [(0, .ref h_), (1, .int x1)]) (fun v2 v3 v4 => []) (fun v2 v3 v4 => ?_) (fun k11 hk11 => ?_)
  · refine j_const C d5_findLeastInsertions_44 ?_
    refine j_iload C d5_findLeastInsertions_45 1 rfl ?_
    refine j_const C d5_findLeastInsertions_46 ?_
    refine j_callSI0 (As := [.int 0, .int x1, .int 10]) C d5_findLeastInsertions_48 ms5_48 (kX5_wordOf _ _ tc 0 x1 10) ⟨rfl, rfl, Nat.le_of_ble_eq_true rfl, Nat.le_of_ble_eq_true rfl⟩ rfl [] rfl rfl rfl (Nat.le_of_ble_eq_true rfl) (fun x5 => ?_)
    refine j_istore C d5_findLeastInsertions_51 (by decide) (lv' := [(2, .int x5), (0, .ref h_), (1, .int x1)]) rfl ?_
    refine j_aload C d5_findLeastInsertions_52 1 rfl ?_
    refine j_get C d5_findLeastInsertions_53 fl5_20 0 rfl rfl ?_
    refine j_iload C d5_findLeastInsertions_56 0 rfl ?_
    refine j_callVI0 (As := [.int x5]) C d5_findLeastInsertions_57 mv5_52 (kX10_exists _ _ tc 1469 h_words h_words_costs (.ref h_words_highs) (.ref h_words_lows) v2 x5) ⟨rfl, rfl, Nat.le_of_ble_eq_true rfl, Nat.le_of_ble_eq_true rfl⟩ rfl 6 rfl [6, 7] rfl rfl rfl (Nat.le_of_ble_eq_true rfl) (fun x6 => ?_)
    refine j_if_ne C d5_findLeastInsertions_60 ?_ ?_
    · refine j_aload C d5_findLeastInsertions_66 1 rfl ?_
      refine j_get C d5_findLeastInsertions_67 fl5_20 0 rfl rfl ?_
      refine j_const C d5_findLeastInsertions_70 ?_
      refine j_iload C d5_findLeastInsertions_73 0 rfl ?_
      refine j_callVV3 (As := [.int 1468, .int x5]) C d5_findLeastInsertions_74 mv5_56 (kX10_putCopy _ _ tc 1469 h_words h_words_costs h_words_highs h_words_lows v2 v3 v4 1468 x5) ⟨rfl, rfl, Nat.le_of_ble_eq_true rfl, Nat.le_of_ble_eq_true rfl⟩ rfl 6 rfl [6, 7, 8, 9] rfl rfl rfl (Nat.le_of_ble_eq_true rfl) (fun o7 o8 o9 => [(h_, .inr (5, [.ref h_rules, .ref h_input, .ref h_weights, .ref h_words])), (h_rules, .inr (6, [.ref h_rules_codes, .int c_rules_count])), (h_rules_codes, .inl (tc.1, 24, .inl c_rules_codes)), (h_input, .inr (3, [.ref h_input_terminals, .int c_input_length])), (h_input_terminals, .inl (tc.1, 40, .inl c_input_terminals)), (h_weights, .inl (tc.1, 8, .inl c_weights)), (h_words, .inr (10, [.ref h_words_costs, .ref h_words_highs, .ref h_words_lows])), (h_words_costs, .inl (tc.1, 1469, .inl o7)), (h_words_highs, .inl (tc.2.1, 1469, .inr (.inl o8))), (h_words_lows, .inl (tc.2.1, 1469, .inr (.inl o9)))]) (fun _ => rfl) (fun _ => rfl) (fun _ _ _ => rfl) (fun o7 o8 o9 => ?_)
      refine j_aload C d5_findLeastInsertions_77 1 rfl ?_
      refine j_get C d5_findLeastInsertions_78 fl5_20 0 rfl rfl ?_
      refine j_const C d5_findLeastInsertions_81 ?_
      refine j_callVI0 (As := [.int 1468]) C d5_findLeastInsertions_84 mv5_59 (kX10_lengthOf _ _ tc 1469 h_words h_words_costs (.ref h_words_highs) (.ref h_words_lows) o7 1468) ⟨rfl, rfl, Nat.le_of_ble_eq_true rfl, Nat.le_of_ble_eq_true rfl⟩ rfl 6 rfl [6, 7] rfl rfl rfl (Nat.le_of_ble_eq_true rfl) (fun x10 => ?_)
      refine j_iload C d5_findLeastInsertions_87 2 rfl ?_
      refine j_isub C d5_findLeastInsertions_88 ?_
      exact j_iret C d5_findLeastInsertions_89 rfl
    · refine j_const C d5_findLeastInsertions_63 ?_
      exact j_iret C d5_findLeastInsertions_65 rfl
  · exact j_sub [2, 1, 0] rfl (j_loop4 (fun v12 v13 v14 v15 => [(h_, .inr (5, [.ref h_rules, .ref h_input, .ref h_weights, .ref h_words])), (h_rules, .inr (6, [.ref h_rules_codes, .int c_rules_count])), (h_rules_codes, .inl (tc.1, 24, .inl c_rules_codes)), (h_input, .inr (3, [.ref h_input_terminals, .int c_input_length])), (h_input_terminals, .inl (tc.1, 40, .inl c_input_terminals)), (h_weights, .inl (tc.1, 8, .inl c_weights)), (h_words, .inr (10, [.ref h_words_costs, .ref h_words_highs, .ref h_words_lows])), (h_words_costs, .inl (tc.1, 1469, .inl v13)), (h_words_highs, .inl (tc.2.1, 1469, .inr (.inl v14))), (h_words_lows, .inl (tc.2.1, 1469, .inr (.inl v15)))]) (fun v12 v13 v14 v15 => [(0, .ref h_), (1, .int x1), (2, .int v12)]) (fun rc16 hrc16 v12 v13 v14 v15 => wX5_findLeastInsertions_15 C N h_ h_rules h_rules_codes h_input h_input_terminals h_weights h_words h_words_costs h_words_highs h_words_lows c_rules_codes c_rules_count c_input_terminals c_input_length c_weights x1 k11 hk11 rc16 hrc16 v12 v13 v14 v15) N _ _ _ _)

theorem d6_emptyOf_0 : jdi cX6_emptyOf 0 0 1 := Or.inl ⟨0, by decide +kernel⟩
theorem d6_emptyOf_1 : decode cX6_emptyOf 1 = .ok (.ireturn, 1) := by decide +kernel
set_option maxHeartbeats 4000000 in
set_option maxRecDepth 100000 in
theorem kX6_emptyOf (l : Launch) (D : va_G) (tc : jTC) (p0 : Int32) : ctI0 l D tc yX6_emptyOf (Cond.code yX6_emptyOf cX6_emptyOf 1 (some .int) :: jtb) ({ frames := 0, cells := 0, slots := 0, locals := 0 } : Room) [.int p0] [] (fX6_emptyOf p0) := by
  refine ctI0_of (lv0 := [(0, .int p0)]) (by decide +kernel) (Nat.le_of_ble_eq_true rfl) rfl (fun X C => ?_)
  unfold fX6_emptyOf
  refine j_iload C d6_emptyOf_0 0 rfl ?_
  exact j_iret0 C d6_emptyOf_1

theorem d6_isRecursive_0 : jdi cX6_isRecursive 0 0 1 := Or.inl ⟨0, by decide +kernel⟩
theorem d6_isRecursive_1 : jd cX6_isRecursive 1 (.invokestatic 19) 3 4 := by decide +kernel
theorem d6_isRecursive_4 : jdb cX6_isRecursive 4 (.ifCond .le 22) 22 26 7 := by decide +kernel
theorem d6_isRecursive_7 : jdi cX6_isRecursive 7 0 8 := Or.inl ⟨0, by decide +kernel⟩
theorem d6_isRecursive_8 : jdk cX6_isRecursive 8 0 9 := Or.inl ⟨0, by decide +kernel⟩
theorem d6_isRecursive_9 : jd cX6_isRecursive 9 (.invokestatic 22) 3 12 := by decide +kernel
theorem d6_isRecursive_12 : jdk cX6_isRecursive 12 10 14 := Or.inr (Or.inl ⟨10, by decide +kernel⟩)
theorem d6_isRecursive_14 : jdi cX6_isRecursive 14 0 15 := Or.inl ⟨0, by decide +kernel⟩
theorem d6_isRecursive_15 : jd cX6_isRecursive 15 (.invokestatic 15) 3 18 := by decide +kernel
theorem d6_isRecursive_18 : jd cX6_isRecursive 18 (.iadd) 1 19 := by decide +kernel
theorem d6_isRecursive_19 : jdb cX6_isRecursive 19 (.if_icmp .ne 7) 7 26 22 := by decide +kernel
theorem d6_isRecursive_22 : jdk cX6_isRecursive 22 1 23 := Or.inl ⟨1, by decide +kernel⟩
theorem d6_isRecursive_23 : jdb cX6_isRecursive 23 (.goto 4) 4 27 26 := by decide +kernel
theorem d6_isRecursive_26 : jdk cX6_isRecursive 26 0 27 := Or.inl ⟨0, by decide +kernel⟩
theorem d6_isRecursive_27 : decode cX6_isRecursive 27 = .ok (.ireturn, 1) := by decide +kernel
set_option maxHeartbeats 4000000 in
set_option maxRecDepth 100000 in
theorem kX6_isRecursive (l : Launch) (D : va_G) (tc : jTC) (p0 : Int32) : ctI0 l D tc yX6_isRecursive (Cond.code yX6_isRecursive cX6_isRecursive 1 (some .boolean) :: jtb) ({ frames := 1, cells := 0, slots := 0, locals := 21 } : Room) [.int p0] [] (fX6_isRecursive p0) := by
  refine ctI0_of (lv0 := [(0, .int p0)]) (by decide +kernel) (Nat.le_of_ble_eq_true rfl) rfl (fun X C => ?_)
  unfold fX6_isRecursive
  refine j_iload C d6_isRecursive_0 0 rfl ?_
  refine j_callSI0 (As := [.int p0]) C d6_isRecursive_1 ms6_19 (kX6_lengthOf _ _ tc p0) ⟨rfl, rfl, Nat.le_of_ble_eq_true rfl, Nat.le_of_ble_eq_true rfl⟩ rfl [] rfl rfl rfl (Nat.le_of_ble_eq_true rfl) (fun x1 => ?_)
  refine j_join 27 (fun v2 => []) (fun v2 => []) (fun v2 => [.int v2]) (fun v2 => ?_) (fun k3 hk3 => ?_)
  · refine j_gz (fun hz => ?_)
    exact j_zret0 C hz d6_isRecursive_27
  · refine j_join 26 (fun v4 => []) (fun v4 => []) (fun v4 => []) (fun v4 => ?_) (fun k5 hk5 => ?_)
    · refine j_const C d6_isRecursive_26 ?_
      exact hk3 _
    · refine j_if_le C d6_isRecursive_4 ?_ ?_
      · exact j_sub [] rfl (hk5 _)
      · refine j_iload C d6_isRecursive_7 0 rfl ?_
        refine j_const C d6_isRecursive_8 ?_
        refine j_callSI0 (As := [.int p0, .int 0]) C d6_isRecursive_9 ms6_22 (kX6_symbolOf _ _ tc p0 0) ⟨rfl, rfl, Nat.le_of_ble_eq_true rfl, Nat.le_of_ble_eq_true rfl⟩ rfl [] rfl rfl rfl (Nat.le_of_ble_eq_true rfl) (fun x6 => ?_)
        refine j_const C d6_isRecursive_12 ?_
        refine j_iload C d6_isRecursive_14 0 rfl ?_
        refine j_callSI0 (As := [.int p0]) C d6_isRecursive_15 ms6_15 (kX6_leftOf _ _ tc p0) ⟨rfl, rfl, Nat.le_of_ble_eq_true rfl, Nat.le_of_ble_eq_true rfl⟩ rfl [] rfl rfl rfl (Nat.le_of_ble_eq_true rfl) (fun x7 => ?_)
        refine j_iadd C d6_isRecursive_18 ?_
        refine j_icmp_ne C d6_isRecursive_19 ?_ ?_
        · exact j_sub [] rfl (hk5 _)
        · refine j_const C d6_isRecursive_22 ?_
          refine j_goto C d6_isRecursive_23 ?_
          exact j_sub [] rfl (hk3 _)

theorem d6_extended_0 : jdi cX6_extended 0 0 1 := Or.inl ⟨0, by decide +kernel⟩
theorem d6_extended_1 : jd cX6_extended 1 (.invokestatic 19) 3 4 := by decide +kernel
theorem d6_extended_4 : jds cX6_extended 4 2 5 := Or.inl ⟨2, by decide +kernel⟩
theorem d6_extended_5 : jdi cX6_extended 5 0 6 := Or.inl ⟨0, by decide +kernel⟩
theorem d6_extended_6 : jdk cX6_extended 6 8 8 := Or.inr (Or.inl ⟨8, by decide +kernel⟩)
theorem d6_extended_8 : jd cX6_extended 8 (.iadd) 1 9 := by decide +kernel
theorem d6_extended_9 : jdi cX6_extended 9 1 10 := Or.inl ⟨1, by decide +kernel⟩
theorem d6_extended_10 : jdk cX6_extended 10 6 12 := Or.inr (Or.inl ⟨6, by decide +kernel⟩)
theorem d6_extended_12 : jdk cX6_extended 12 5 13 := Or.inl ⟨5, by decide +kernel⟩
theorem d6_extended_13 : jdi cX6_extended 13 2 14 := Or.inl ⟨2, by decide +kernel⟩
theorem d6_extended_14 : jd cX6_extended 14 (.imul) 1 15 := by decide +kernel
theorem d6_extended_15 : jd cX6_extended 15 (.iadd) 1 16 := by decide +kernel
theorem d6_extended_16 : jd cX6_extended 16 (.ishl) 1 17 := by decide +kernel
theorem d6_extended_17 : jd cX6_extended 17 (.iadd) 1 18 := by decide +kernel
theorem d6_extended_18 : decode cX6_extended 18 = .ok (.ireturn, 1) := by decide +kernel
set_option maxHeartbeats 4000000 in
set_option maxRecDepth 100000 in
theorem kX6_extended (l : Launch) (D : va_G) (tc : jTC) (p0 : Int32) (p1 : Int32) : ctI0 l D tc yX6_extended (Cond.code yX6_extended cX6_extended 3 (some .int) :: jtb) ({ frames := 1, cells := 0, slots := 0, locals := 20 } : Room) [.int p0, .int p1] [] (fX6_extended p0 p1) := by
  refine ctI0_of (lv0 := [(0, .int p0), (1, .int p1)]) (by decide +kernel) (Nat.le_of_ble_eq_true rfl) rfl (fun X C => ?_)
  unfold fX6_extended
  refine j_iload C d6_extended_0 0 rfl ?_
  refine j_callSI0 (As := [.int p0]) C d6_extended_1 ms6_19 (kX6_lengthOf _ _ tc p0) ⟨rfl, rfl, Nat.le_of_ble_eq_true rfl, Nat.le_of_ble_eq_true rfl⟩ rfl [] rfl rfl rfl (Nat.le_of_ble_eq_true rfl) (fun x1 => ?_)
  refine j_istore C d6_extended_4 (by decide) (lv' := [(2, .int x1), (0, .int p0), (1, .int p1)]) rfl ?_
  refine j_iload C d6_extended_5 1 rfl ?_
  refine j_const C d6_extended_6 ?_
  refine j_iadd C d6_extended_8 ?_
  refine j_iload C d6_extended_9 2 rfl ?_
  refine j_const C d6_extended_10 ?_
  refine j_const C d6_extended_12 ?_
  refine j_iload C d6_extended_13 0 rfl ?_
  refine j_imul C d6_extended_14 ?_
  refine j_iadd C d6_extended_15 ?_
  refine j_ishl C d6_extended_16 ?_
  refine j_iadd C d6_extended_17 ?_
  exact j_iret0 C d6_extended_18

theorem d6_extendedByArgument_0 : jdi cX6_extendedByArgument 0 0 1 := Or.inl ⟨0, by decide +kernel⟩
theorem d6_extendedByArgument_1 : jdb cX6_extendedByArgument 1 (.ifCond .lt 8) 8 9 4 := by decide +kernel
theorem d6_extendedByArgument_4 : jdi cX6_extendedByArgument 4 2 5 := Or.inl ⟨2, by decide +kernel⟩
theorem d6_extendedByArgument_5 : jdk cX6_extendedByArgument 5 (-1) 6 := Or.inl ⟨(-1), by decide +kernel⟩
theorem d6_extendedByArgument_6 : jdb cX6_extendedByArgument 6 (.if_icmp .ne 5) 5 11 9 := by decide +kernel
theorem d6_extendedByArgument_9 : jdi cX6_extendedByArgument 9 0 10 := Or.inl ⟨0, by decide +kernel⟩
theorem d6_extendedByArgument_10 : decode cX6_extendedByArgument 10 = .ok (.ireturn, 1) := by decide +kernel
theorem d6_extendedByArgument_11 : jdi cX6_extendedByArgument 11 2 12 := Or.inl ⟨2, by decide +kernel⟩
theorem d6_extendedByArgument_12 : jdb cX6_extendedByArgument 12 (.ifCond .lt 13) 13 25 15 := by decide +kernel
theorem d6_extendedByArgument_15 : jdi cX6_extendedByArgument 15 2 16 := Or.inl ⟨2, by decide +kernel⟩
theorem d6_extendedByArgument_16 : jdk cX6_extendedByArgument 16 8 18 := Or.inr (Or.inl ⟨8, by decide +kernel⟩)
theorem d6_extendedByArgument_18 : jdb cX6_extendedByArgument 18 (.if_icmp .ge 7) 7 25 21 := by decide +kernel
theorem d6_extendedByArgument_21 : jdk cX6_extendedByArgument 21 1 22 := Or.inl ⟨1, by decide +kernel⟩
theorem d6_extendedByArgument_22 : jdb cX6_extendedByArgument 22 (.goto 4) 4 26 25 := by decide +kernel
theorem d6_extendedByArgument_25 : jdk cX6_extendedByArgument 25 0 26 := Or.inl ⟨0, by decide +kernel⟩
theorem d6_extendedByArgument_26 : jds cX6_extendedByArgument 26 3 27 := Or.inl ⟨3, by decide +kernel⟩
theorem d6_extendedByArgument_27 : jdi cX6_extendedByArgument 27 2 28 := Or.inl ⟨2, by decide +kernel⟩
theorem d6_extendedByArgument_28 : jdk cX6_extendedByArgument 28 10 30 := Or.inr (Or.inl ⟨10, by decide +kernel⟩)
theorem d6_extendedByArgument_30 : jdb cX6_extendedByArgument 30 (.if_icmp .lt 13) 13 43 33 := by decide +kernel
theorem d6_extendedByArgument_33 : jdi cX6_extendedByArgument 33 2 34 := Or.inl ⟨2, by decide +kernel⟩
theorem d6_extendedByArgument_34 : jdk cX6_extendedByArgument 34 18 36 := Or.inr (Or.inl ⟨18, by decide +kernel⟩)
theorem d6_extendedByArgument_36 : jdb cX6_extendedByArgument 36 (.if_icmp .ge 7) 7 43 39 := by decide +kernel
theorem d6_extendedByArgument_39 : jdk cX6_extendedByArgument 39 1 40 := Or.inl ⟨1, by decide +kernel⟩
theorem d6_extendedByArgument_40 : jdb cX6_extendedByArgument 40 (.goto 4) 4 44 43 := by decide +kernel
theorem d6_extendedByArgument_43 : jdk cX6_extendedByArgument 43 0 44 := Or.inl ⟨0, by decide +kernel⟩
theorem d6_extendedByArgument_44 : jds cX6_extendedByArgument 44 4 46 := Or.inr (by decide +kernel)
theorem d6_extendedByArgument_46 : jdi cX6_extendedByArgument 46 0 47 := Or.inl ⟨0, by decide +kernel⟩
theorem d6_extendedByArgument_47 : jd cX6_extendedByArgument 47 (.invokestatic 19) 3 50 := by decide +kernel
theorem d6_extendedByArgument_50 : jdi cX6_extendedByArgument 50 1 51 := Or.inl ⟨1, by decide +kernel⟩
theorem d6_extendedByArgument_51 : jdb cX6_extendedByArgument 51 (.if_icmp .ne 12) 12 63 54 := by decide +kernel
theorem d6_extendedByArgument_54 : jdi cX6_extendedByArgument 54 3 55 := Or.inl ⟨3, by decide +kernel⟩
theorem d6_extendedByArgument_55 : jdb cX6_extendedByArgument 55 (.ifCond .ne 10) 10 65 58 := by decide +kernel
theorem d6_extendedByArgument_58 : jdi cX6_extendedByArgument 58 4 60 := Or.inr (by decide +kernel)
theorem d6_extendedByArgument_60 : jdb cX6_extendedByArgument 60 (.ifCond .ne 5) 5 65 63 := by decide +kernel
theorem d6_extendedByArgument_63 : jdk cX6_extendedByArgument 63 (-1) 64 := Or.inl ⟨(-1), by decide +kernel⟩
theorem d6_extendedByArgument_64 : decode cX6_extendedByArgument 64 = .ok (.ireturn, 1) := by decide +kernel
theorem d6_extendedByArgument_65 : jdi cX6_extendedByArgument 65 0 66 := Or.inl ⟨0, by decide +kernel⟩
theorem d6_extendedByArgument_66 : jdi cX6_extendedByArgument 66 2 67 := Or.inl ⟨2, by decide +kernel⟩
theorem d6_extendedByArgument_67 : jd cX6_extendedByArgument 67 (.invokestatic 26) 3 70 := by decide +kernel
theorem d6_extendedByArgument_70 : decode cX6_extendedByArgument 70 = .ok (.ireturn, 1) := by decide +kernel
set_option maxHeartbeats 4000000 in
set_option maxRecDepth 100000 in
theorem kX6_extendedByArgument (l : Launch) (D : va_G) (tc : jTC) (p0 : Int32) (p1 : Int32) (p2 : Int32) : ctI0 l D tc yX6_extendedByArgument (Cond.code yX6_extendedByArgument cX6_extendedByArgument 5 (some .int) :: jtb) ({ frames := 2, cells := 0, slots := 0, locals := 42 } : Room) [.int p0, .int p1, .int p2] [] (fX6_extendedByArgument p0 p1 p2) := by
  refine ctI0_of (lv0 := [(0, .int p0), (1, .int p1), (2, .int p2)]) (by decide +kernel) (Nat.le_of_ble_eq_true rfl) rfl (fun X C => ?_)
  unfold fX6_extendedByArgument
  refine j_iload C d6_extendedByArgument_0 0 rfl ?_
  refine j_join 9 (fun v1 => []) (fun v1 => [(0, .int p0)]) (fun v1 => []) (fun v1 => ?_) (fun k2 hk2 => ?_)
  · refine j_iload C d6_extendedByArgument_9 0 rfl ?_
    exact j_iret0 C d6_extendedByArgument_10
  · refine j_if_lt C d6_extendedByArgument_1 ?_ ?_
    · exact j_sub [0] rfl (hk2 _)
    · refine j_iload C d6_extendedByArgument_4 2 rfl ?_
      refine j_const C d6_extendedByArgument_5 ?_
      refine j_icmp_ne C d6_extendedByArgument_6 ?_ ?_
      · refine j_iload C d6_extendedByArgument_11 2 rfl ?_
        refine j_join 26 (fun v3 => []) (fun v3 => [(0, .int p0), (1, .int p1), (2, .int p2)]) (fun v3 => [.int v3]) (fun v3 => ?_) (fun k14 hk14 => ?_)
        · refine j_istore C d6_extendedByArgument_26 (by decide) (lv' := [(3, .int v3), (0, .int p0), (1, .int p1), (2, .int p2)]) rfl ?_
          refine j_iload C d6_extendedByArgument_27 3 rfl ?_
          refine j_const C d6_extendedByArgument_28 ?_
          refine j_join 44 (fun v4 => []) (fun v4 => [(0, .int p0), (1, .int p1), (2, .int p2), (3, .int v3)]) (fun v4 => [.int v4]) (fun v4 => ?_) (fun k11 hk11 => ?_)
          · refine j_istore C d6_extendedByArgument_44 (by decide) (lv' := [(4, .int v4), (0, .int p0), (1, .int p1), (2, .int p2), (3, .int v3)]) rfl ?_
            refine j_iload C d6_extendedByArgument_46 1 rfl ?_
            refine j_callSI0 (As := [.int p0]) C d6_extendedByArgument_47 ms6_19 (kX6_lengthOf _ _ tc p0) ⟨rfl, rfl, Nat.le_of_ble_eq_true rfl, Nat.le_of_ble_eq_true rfl⟩ rfl [] rfl rfl rfl (Nat.le_of_ble_eq_true rfl) (fun x5 => ?_)
            refine j_iload C d6_extendedByArgument_50 2 rfl ?_
            refine j_join 63 (fun v6 => []) (fun v6 => []) (fun v6 => []) (fun v6 => ?_) (fun k7 hk7 => ?_)
            · refine j_const C d6_extendedByArgument_63 ?_
              exact j_iret0 C d6_extendedByArgument_64
            · refine j_icmp_ne C d6_extendedByArgument_51 ?_ ?_
              · exact j_sub [] rfl (hk7 _)
              · refine j_iload C d6_extendedByArgument_54 4 rfl ?_
                refine j_join 65 (fun v8 => []) (fun v8 => [(0, .int p0), (2, .int p2)]) (fun v8 => []) (fun v8 => ?_) (fun k10 hk10 => ?_)
                · refine j_iload C d6_extendedByArgument_65 0 rfl ?_
                  refine j_iload C d6_extendedByArgument_66 1 rfl ?_
                  refine j_callSI0 (As := [.int p0, .int p2]) C d6_extendedByArgument_67 ms6_26 (kX6_extended _ _ tc p0 p2) ⟨rfl, rfl, Nat.le_of_ble_eq_true rfl, Nat.le_of_ble_eq_true rfl⟩ rfl [] rfl rfl rfl (Nat.le_of_ble_eq_true rfl) (fun x9 => ?_)
                  exact j_iret0 C d6_extendedByArgument_70
                · refine j_if_ne C d6_extendedByArgument_55 ?_ ?_
                  · exact j_sub [1, 3] rfl (hk10 _)
                  · refine j_iload C d6_extendedByArgument_58 0 rfl ?_
                    refine j_if_ne C d6_extendedByArgument_60 ?_ ?_
                    · exact j_sub [1, 3] rfl (hk10 _)
                    · exact j_sub [] rfl (hk7 _)
          · refine j_join 43 (fun v12 => []) (fun v12 => [(0, .int p0), (1, .int p1), (2, .int p2), (3, .int v3)]) (fun v12 => []) (fun v12 => ?_) (fun k13 hk13 => ?_)
            · refine j_const C d6_extendedByArgument_43 ?_
              exact hk11 _
            · refine j_icmp_lt C d6_extendedByArgument_30 ?_ ?_
              · exact j_sub [1, 2, 3, 0] rfl (hk13 _)
              · refine j_iload C d6_extendedByArgument_33 3 rfl ?_
                refine j_const C d6_extendedByArgument_34 ?_
                refine j_icmp_ge C d6_extendedByArgument_36 ?_ ?_
                · exact j_sub [1, 2, 3, 0] rfl (hk13 _)
                · refine j_const C d6_extendedByArgument_39 ?_
                  refine j_goto C d6_extendedByArgument_40 ?_
                  exact j_sub [1, 2, 3, 0] rfl (hk11 _)
        · refine j_join 25 (fun v15 => []) (fun v15 => [(0, .int p0), (1, .int p1), (2, .int p2)]) (fun v15 => []) (fun v15 => ?_) (fun k16 hk16 => ?_)
          · refine j_const C d6_extendedByArgument_25 ?_
            exact hk14 _
          · refine j_if_lt C d6_extendedByArgument_12 ?_ ?_
            · exact hk16 _
            · refine j_iload C d6_extendedByArgument_15 2 rfl ?_
              refine j_const C d6_extendedByArgument_16 ?_
              refine j_icmp_ge C d6_extendedByArgument_18 ?_ ?_
              · exact hk16 _
              · refine j_const C d6_extendedByArgument_21 ?_
                refine j_goto C d6_extendedByArgument_22 ?_
                exact hk14 _
      · exact j_sub [0] rfl (hk2 _)

theorem d6_nonterminalsIn_0 : jdk cX6_nonterminalsIn 0 0 1 := Or.inl ⟨0, by decide +kernel⟩
theorem d6_nonterminalsIn_1 : jds cX6_nonterminalsIn 1 1 2 := Or.inl ⟨1, by decide +kernel⟩
theorem d6_nonterminalsIn_2 : jdk cX6_nonterminalsIn 2 0 3 := Or.inl ⟨0, by decide +kernel⟩
theorem d6_nonterminalsIn_3 : jds cX6_nonterminalsIn 3 2 4 := Or.inl ⟨2, by decide +kernel⟩
theorem d6_nonterminalsIn_4 : jdi cX6_nonterminalsIn 4 2 5 := Or.inl ⟨2, by decide +kernel⟩
theorem d6_nonterminalsIn_5 : jdi cX6_nonterminalsIn 5 0 6 := Or.inl ⟨0, by decide +kernel⟩
theorem d6_nonterminalsIn_6 : jd cX6_nonterminalsIn 6 (.invokestatic 19) 3 9 := by decide +kernel
theorem d6_nonterminalsIn_9 : jdb cX6_nonterminalsIn 9 (.if_icmp .ge 30) 30 39 12 := by decide +kernel
theorem d6_nonterminalsIn_12 : jdi cX6_nonterminalsIn 12 0 13 := Or.inl ⟨0, by decide +kernel⟩
theorem d6_nonterminalsIn_13 : jdi cX6_nonterminalsIn 13 2 14 := Or.inl ⟨2, by decide +kernel⟩
theorem d6_nonterminalsIn_14 : jd cX6_nonterminalsIn 14 (.invokestatic 22) 3 17 := by decide +kernel
theorem d6_nonterminalsIn_17 : jds cX6_nonterminalsIn 17 3 18 := Or.inl ⟨3, by decide +kernel⟩
theorem d6_nonterminalsIn_18 : jdi cX6_nonterminalsIn 18 3 19 := Or.inl ⟨3, by decide +kernel⟩
theorem d6_nonterminalsIn_19 : jdk cX6_nonterminalsIn 19 10 21 := Or.inr (Or.inl ⟨10, by decide +kernel⟩)
theorem d6_nonterminalsIn_21 : jdb cX6_nonterminalsIn 21 (.if_icmp .lt 12) 12 33 24 := by decide +kernel
theorem d6_nonterminalsIn_24 : jdi cX6_nonterminalsIn 24 1 25 := Or.inl ⟨1, by decide +kernel⟩
theorem d6_nonterminalsIn_25 : jdk cX6_nonterminalsIn 25 1 26 := Or.inl ⟨1, by decide +kernel⟩
theorem d6_nonterminalsIn_26 : jdi cX6_nonterminalsIn 26 3 27 := Or.inl ⟨3, by decide +kernel⟩
theorem d6_nonterminalsIn_27 : jdk cX6_nonterminalsIn 27 10 29 := Or.inr (Or.inl ⟨10, by decide +kernel⟩)
theorem d6_nonterminalsIn_29 : jd cX6_nonterminalsIn 29 (.isub) 1 30 := by decide +kernel
theorem d6_nonterminalsIn_30 : jd cX6_nonterminalsIn 30 (.ishl) 1 31 := by decide +kernel
theorem d6_nonterminalsIn_31 : jd cX6_nonterminalsIn 31 (.ior) 1 32 := by decide +kernel
theorem d6_nonterminalsIn_32 : jds cX6_nonterminalsIn 32 1 33 := Or.inl ⟨1, by decide +kernel⟩
theorem d6_nonterminalsIn_33 : jd cX6_nonterminalsIn 33 (.iinc 2 1) 3 36 := by decide +kernel
theorem d6_nonterminalsIn_36 : jdb cX6_nonterminalsIn 36 (.goto (-32)) (-32) 4 39 := by decide +kernel
theorem d6_nonterminalsIn_39 : jdi cX6_nonterminalsIn 39 1 40 := Or.inl ⟨1, by decide +kernel⟩
theorem d6_nonterminalsIn_40 : decode cX6_nonterminalsIn 40 = .ok (.ireturn, 1) := by decide +kernel
set_option maxHeartbeats 4000000 in
set_option maxRecDepth 100000 in
theorem wX6_nonterminalsIn_4 {X : jC} {tc : jTC} (C : jx X cX6_nonterminalsIn 4 RX6 (some .int) tc ({ frames := 1, cells := 0, slots := 0, locals := 21 } : Room)) (p0 : Int32) (k2 : (Int32 → Option (Int32))) (hk2 : ∀ (v12 : Int32), jo X 4 (0, 0) (jQI0 X []) (k2 v12) [] 39 [(1, .int v12)] []) (rc5 : Int32 → Int32 → Option (Int32)) (hrc5 : ∀ (v3 : Int32) (v4 : Int32), jo X 4 (0, 0) (jQI0 X []) (rc5 v3 v4) [] 4 [(0, .int p0), (1, .int v3), (2, .int v4)] []) (v3 : Int32) (v4 : Int32) : jo X 4 (0, 0) (jQI0 X []) (bX6_nonterminalsIn_4 p0 k2 rc5 v3 v4) [] 4 [(0, .int p0), (1, .int v3), (2, .int v4)] [] := by
  unfold bX6_nonterminalsIn_4
  refine j_iload C d6_nonterminalsIn_4 2 rfl ?_
  refine j_iload C d6_nonterminalsIn_5 0 rfl ?_
  refine j_callSI0 (As := [.int p0]) C d6_nonterminalsIn_6 ms6_19 (kX6_lengthOf _ _ tc p0) ⟨rfl, rfl, Nat.le_of_ble_eq_true rfl, Nat.le_of_ble_eq_true rfl⟩ rfl [] rfl rfl rfl (Nat.le_of_ble_eq_true rfl) (fun x6 => ?_)
  refine j_icmp_ge C d6_nonterminalsIn_9 ?_ ?_
  · exact j_sub [1] rfl (hk2 _)
  · refine j_iload C d6_nonterminalsIn_12 0 rfl ?_
    refine j_iload C d6_nonterminalsIn_13 2 rfl ?_
    refine j_callSI0 (As := [.int p0, .int v4]) C d6_nonterminalsIn_14 ms6_22 (kX6_symbolOf _ _ tc p0 v4) ⟨rfl, rfl, Nat.le_of_ble_eq_true rfl, Nat.le_of_ble_eq_true rfl⟩ rfl [] rfl rfl rfl (Nat.le_of_ble_eq_true rfl) (fun x7 => ?_)
    refine j_istore C d6_nonterminalsIn_17 (by decide) (lv' := [(3, .int x7), (0, .int p0), (1, .int v3), (2, .int v4)]) rfl ?_
    refine j_iload C d6_nonterminalsIn_18 0 rfl ?_
    refine j_const C d6_nonterminalsIn_19 ?_
    refine j_join 33 (fun v8 => []) (fun v8 => [(0, .int p0), (1, .int v8), (2, .int v4)]) (fun v8 => []) (fun v8 => ?_) (fun k10 hk10 => ?_)
    · refine j_iincN C (fun x9 => [(2, .int x9), (0, .int p0), (1, .int v8)]) d6_nonterminalsIn_33 2 rfl (by decide +kernel) (by decide) (fun _ => rfl) (fun x9 => ?_)
      refine j_goto C d6_nonterminalsIn_36 ?_
      exact j_sub [1, 2, 0] rfl (hrc5 _ _)
    · refine j_icmp_lt C d6_nonterminalsIn_21 ?_ ?_
      · exact j_sub [1, 2, 3] rfl (hk10 _)
      · refine j_iload C d6_nonterminalsIn_24 2 rfl ?_
        refine j_const C d6_nonterminalsIn_25 ?_
        refine j_iload C d6_nonterminalsIn_26 0 rfl ?_
        refine j_const C d6_nonterminalsIn_27 ?_
        refine j_isub C d6_nonterminalsIn_29 ?_
        refine j_ishl C d6_nonterminalsIn_30 ?_
        refine j_ior C d6_nonterminalsIn_31 ?_
        refine j_leti (fun x11 => ?_)
        refine j_istore C d6_nonterminalsIn_32 (by decide) (lv' := [(1, .int x11), (3, .int x7), (0, .int p0), (2, .int v4)]) rfl ?_
        exact j_sub [2, 0, 3] rfl (hk10 _)

set_option maxHeartbeats 4000000 in
set_option maxRecDepth 100000 in
theorem kX6_nonterminalsIn (l : Launch) (D : va_G) (tc : jTC) (N : Nat) (p0 : Int32) : ctI0 l D tc yX6_nonterminalsIn (Cond.code yX6_nonterminalsIn cX6_nonterminalsIn 4 (some .int) :: jtb) ({ frames := 1, cells := 0, slots := 0, locals := 21 } : Room) [.int p0] [] (fX6_nonterminalsIn N p0) := by
  refine ctI0_of (lv0 := [(0, .int p0)]) (by decide +kernel) (Nat.le_of_ble_eq_true rfl) rfl (fun X C => ?_)
  unfold fX6_nonterminalsIn
  refine j_const C d6_nonterminalsIn_0 ?_
  refine j_istore C d6_nonterminalsIn_1 (by decide) (lv' := [(1, .int 0), (0, .int p0)]) rfl ?_
  refine j_const C d6_nonterminalsIn_2 ?_
  refine j_istore C d6_nonterminalsIn_3 (by decide) (lv' := [(2, .int 0), (1, .int 0), (0, .int p0)]) rfl ?_
  refine j_join 39 (fun v1 => []) (fun v1 => [(1, .int v1)]) (fun v1 => []) (fun v1 => ?_) (fun k2 hk2 => ?_)
  · refine j_iload C d6_nonterminalsIn_39 0 rfl ?_
    exact j_iret0 C d6_nonterminalsIn_40
  · exact j_sub [2, 1, 0] rfl (j_loop2 (fun v3 v4 => []) (fun v3 v4 => [(0, .int p0), (1, .int v3), (2, .int v4)]) (fun rc5 hrc5 v3 v4 => wX6_nonterminalsIn_4 C p0 k2 hk2 rc5 hrc5 v3 v4) N _ _)

theorem d6_prefixOf_0 : jdi cX6_prefixOf 0 0 1 := Or.inl ⟨0, by decide +kernel⟩
theorem d6_prefixOf_1 : jd cX6_prefixOf 1 (.invokestatic 15) 3 4 := by decide +kernel
theorem d6_prefixOf_4 : jd cX6_prefixOf 4 (.invokestatic 29) 3 7 := by decide +kernel
theorem d6_prefixOf_7 : jds cX6_prefixOf 7 2 8 := Or.inl ⟨2, by decide +kernel⟩
theorem d6_prefixOf_8 : jdk cX6_prefixOf 8 0 9 := Or.inl ⟨0, by decide +kernel⟩
theorem d6_prefixOf_9 : jds cX6_prefixOf 9 3 10 := Or.inl ⟨3, by decide +kernel⟩
theorem d6_prefixOf_10 : jdi cX6_prefixOf 10 3 11 := Or.inl ⟨3, by decide +kernel⟩
theorem d6_prefixOf_11 : jdi cX6_prefixOf 11 1 12 := Or.inl ⟨1, by decide +kernel⟩
theorem d6_prefixOf_12 : jdb cX6_prefixOf 12 (.if_icmp .ge 19) 19 31 15 := by decide +kernel
theorem d6_prefixOf_15 : jdi cX6_prefixOf 15 2 16 := Or.inl ⟨2, by decide +kernel⟩
theorem d6_prefixOf_16 : jdi cX6_prefixOf 16 0 17 := Or.inl ⟨0, by decide +kernel⟩
theorem d6_prefixOf_17 : jdi cX6_prefixOf 17 3 18 := Or.inl ⟨3, by decide +kernel⟩
theorem d6_prefixOf_18 : jd cX6_prefixOf 18 (.invokestatic 22) 3 21 := by decide +kernel
theorem d6_prefixOf_21 : jd cX6_prefixOf 21 (.invokestatic 26) 3 24 := by decide +kernel
theorem d6_prefixOf_24 : jds cX6_prefixOf 24 2 25 := Or.inl ⟨2, by decide +kernel⟩
theorem d6_prefixOf_25 : jd cX6_prefixOf 25 (.iinc 3 1) 3 28 := by decide +kernel
theorem d6_prefixOf_28 : jdb cX6_prefixOf 28 (.goto (-18)) (-18) 10 31 := by decide +kernel
theorem d6_prefixOf_31 : jdi cX6_prefixOf 31 2 32 := Or.inl ⟨2, by decide +kernel⟩
theorem d6_prefixOf_32 : decode cX6_prefixOf 32 = .ok (.ireturn, 1) := by decide +kernel
set_option maxHeartbeats 4000000 in
set_option maxRecDepth 100000 in
theorem wX6_prefixOf_10 {X : jC} {tc : jTC} (C : jx X cX6_prefixOf 4 RX6 (some .int) tc ({ frames := 2, cells := 0, slots := 0, locals := 42 } : Room)) (p0 : Int32) (p1 : Int32) (k4 : (Int32 → Option (Int32))) (hk4 : ∀ (v11 : Int32), jo X 4 (0, 0) (jQI0 X []) (k4 v11) [] 31 [(2, .int v11)] []) (rc7 : Int32 → Int32 → Option (Int32)) (hrc7 : ∀ (v5 : Int32) (v6 : Int32), jo X 4 (0, 0) (jQI0 X []) (rc7 v5 v6) [] 10 [(0, .int p0), (1, .int p1), (2, .int v5), (3, .int v6)] []) (v5 : Int32) (v6 : Int32) : jo X 4 (0, 0) (jQI0 X []) (bX6_prefixOf_10 p0 p1 k4 rc7 v5 v6) [] 10 [(0, .int p0), (1, .int p1), (2, .int v5), (3, .int v6)] [] := by
  unfold bX6_prefixOf_10
  refine j_iload C d6_prefixOf_10 3 rfl ?_
  refine j_iload C d6_prefixOf_11 1 rfl ?_
  refine j_icmp_ge C d6_prefixOf_12 ?_ ?_
  · exact j_sub [2] rfl (hk4 _)
  · refine j_iload C d6_prefixOf_15 2 rfl ?_
    refine j_iload C d6_prefixOf_16 0 rfl ?_
    refine j_iload C d6_prefixOf_17 3 rfl ?_
    refine j_callSI0 (As := [.int p0, .int v6]) C d6_prefixOf_18 ms6_22 (kX6_symbolOf _ _ tc p0 v6) ⟨rfl, rfl, Nat.le_of_ble_eq_true rfl, Nat.le_of_ble_eq_true rfl⟩ rfl [] rfl rfl rfl (Nat.le_of_ble_eq_true rfl) (fun x8 => ?_)
    refine j_callSI0 (As := [.int v5, .int x8]) C d6_prefixOf_21 ms6_26 (kX6_extended _ _ tc v5 x8) ⟨rfl, rfl, Nat.le_of_ble_eq_true rfl, Nat.le_of_ble_eq_true rfl⟩ rfl [] rfl rfl rfl (Nat.le_of_ble_eq_true rfl) (fun x9 => ?_)
    refine j_istore C d6_prefixOf_24 (by decide) (lv' := [(2, .int x9), (0, .int p0), (1, .int p1), (3, .int v6)]) rfl ?_
    refine j_iincN C (fun x10 => [(3, .int x10), (2, .int x9), (0, .int p0), (1, .int p1)]) d6_prefixOf_25 3 rfl (by decide +kernel) (by decide) (fun _ => rfl) (fun x10 => ?_)
    refine j_goto C d6_prefixOf_28 ?_
    exact j_sub [2, 3, 1, 0] rfl (hrc7 _ _)

set_option maxHeartbeats 4000000 in
set_option maxRecDepth 100000 in
theorem kX6_prefixOf (l : Launch) (D : va_G) (tc : jTC) (N : Nat) (p0 : Int32) (p1 : Int32) : ctI0 l D tc yX6_prefixOf (Cond.code yX6_prefixOf cX6_prefixOf 4 (some .int) :: jtb) ({ frames := 2, cells := 0, slots := 0, locals := 42 } : Room) [.int p0, .int p1] [] (fX6_prefixOf N p0 p1) := by
  refine ctI0_of (lv0 := [(0, .int p0), (1, .int p1)]) (by decide +kernel) (Nat.le_of_ble_eq_true rfl) rfl (fun X C => ?_)
  unfold fX6_prefixOf
  refine j_iload C d6_prefixOf_0 0 rfl ?_
  refine j_callSI0 (As := [.int p0]) C d6_prefixOf_1 ms6_15 (kX6_leftOf _ _ tc p0) ⟨rfl, rfl, Nat.le_of_ble_eq_true rfl, Nat.le_of_ble_eq_true rfl⟩ rfl [] rfl rfl rfl (Nat.le_of_ble_eq_true rfl) (fun x1 => ?_)
  refine j_callSI0 (As := [.int x1]) C d6_prefixOf_4 ms6_29 (kX6_emptyOf _ _ tc x1) ⟨rfl, rfl, Nat.le_of_ble_eq_true rfl, Nat.le_of_ble_eq_true rfl⟩ rfl [] rfl rfl rfl (Nat.le_of_ble_eq_true rfl) (fun x2 => ?_)
  refine j_istore C d6_prefixOf_7 (by decide) (lv' := [(2, .int x2), (0, .int p0), (1, .int p1)]) rfl ?_
  refine j_const C d6_prefixOf_8 ?_
  refine j_istore C d6_prefixOf_9 (by decide) (lv' := [(3, .int 0), (2, .int x2), (0, .int p0), (1, .int p1)]) rfl ?_
  refine j_join 31 (fun v3 => []) (fun v3 => [(2, .int v3)]) (fun v3 => []) (fun v3 => ?_) (fun k4 hk4 => ?_)
  · refine j_iload C d6_prefixOf_31 0 rfl ?_
    exact j_iret0 C d6_prefixOf_32
  · exact j_sub [2, 3, 1, 0] rfl (j_loop2 (fun v5 v6 => []) (fun v5 v6 => [(0, .int p0), (1, .int p1), (2, .int v5), (3, .int v6)]) (fun rc7 hrc7 v5 v6 => wX6_prefixOf_10 C p0 p1 k4 hk4 rc7 hrc7 v5 v6) N _ _)

theorem d6_suffixOf_0 : jdi cX6_suffixOf 0 2 1 := Or.inl ⟨2, by decide +kernel⟩
theorem d6_suffixOf_1 : jd cX6_suffixOf 1 (.invokestatic 29) 3 4 := by decide +kernel
theorem d6_suffixOf_4 : jds cX6_suffixOf 4 3 5 := Or.inl ⟨3, by decide +kernel⟩
theorem d6_suffixOf_5 : jdi cX6_suffixOf 5 1 6 := Or.inl ⟨1, by decide +kernel⟩
theorem d6_suffixOf_6 : jds cX6_suffixOf 6 4 8 := Or.inr (by decide +kernel)
theorem d6_suffixOf_8 : jdi cX6_suffixOf 8 4 10 := Or.inr (by decide +kernel)
theorem d6_suffixOf_10 : jdi cX6_suffixOf 10 0 11 := Or.inl ⟨0, by decide +kernel⟩
theorem d6_suffixOf_11 : jd cX6_suffixOf 11 (.invokestatic 19) 3 14 := by decide +kernel
theorem d6_suffixOf_14 : jdb cX6_suffixOf 14 (.if_icmp .ge 20) 20 34 17 := by decide +kernel
theorem d6_suffixOf_17 : jdi cX6_suffixOf 17 3 18 := Or.inl ⟨3, by decide +kernel⟩
theorem d6_suffixOf_18 : jdi cX6_suffixOf 18 0 19 := Or.inl ⟨0, by decide +kernel⟩
theorem d6_suffixOf_19 : jdi cX6_suffixOf 19 4 21 := Or.inr (by decide +kernel)
theorem d6_suffixOf_21 : jd cX6_suffixOf 21 (.invokestatic 22) 3 24 := by decide +kernel
theorem d6_suffixOf_24 : jd cX6_suffixOf 24 (.invokestatic 26) 3 27 := by decide +kernel
theorem d6_suffixOf_27 : jds cX6_suffixOf 27 3 28 := Or.inl ⟨3, by decide +kernel⟩
theorem d6_suffixOf_28 : jd cX6_suffixOf 28 (.iinc 4 1) 3 31 := by decide +kernel
theorem d6_suffixOf_31 : jdb cX6_suffixOf 31 (.goto (-23)) (-23) 8 34 := by decide +kernel
theorem d6_suffixOf_34 : jdi cX6_suffixOf 34 3 35 := Or.inl ⟨3, by decide +kernel⟩
theorem d6_suffixOf_35 : decode cX6_suffixOf 35 = .ok (.ireturn, 1) := by decide +kernel
set_option maxHeartbeats 4000000 in
set_option maxRecDepth 100000 in
theorem wX6_suffixOf_8 {X : jC} {tc : jTC} (C : jx X cX6_suffixOf 5 RX6 (some .int) tc ({ frames := 2, cells := 0, slots := 0, locals := 42 } : Room)) (p0 : Int32) (k3 : (Int32 → Option (Int32))) (hk3 : ∀ (v11 : Int32), jo X 5 (0, 0) (jQI0 X []) (k3 v11) [] 34 [(3, .int v11)] []) (rc6 : Int32 → Int32 → Option (Int32)) (hrc6 : ∀ (v4 : Int32) (v5 : Int32), jo X 5 (0, 0) (jQI0 X []) (rc6 v4 v5) [] 8 [(0, .int p0), (3, .int v4), (4, .int v5)] []) (v4 : Int32) (v5 : Int32) : jo X 5 (0, 0) (jQI0 X []) (bX6_suffixOf_8 p0 k3 rc6 v4 v5) [] 8 [(0, .int p0), (3, .int v4), (4, .int v5)] [] := by
  unfold bX6_suffixOf_8
  refine j_iload C d6_suffixOf_8 2 rfl ?_
  refine j_iload C d6_suffixOf_10 0 rfl ?_
  refine j_callSI0 (As := [.int p0]) C d6_suffixOf_11 ms6_19 (kX6_lengthOf _ _ tc p0) ⟨rfl, rfl, Nat.le_of_ble_eq_true rfl, Nat.le_of_ble_eq_true rfl⟩ rfl [] rfl rfl rfl (Nat.le_of_ble_eq_true rfl) (fun x7 => ?_)
  refine j_icmp_ge C d6_suffixOf_14 ?_ ?_
  · exact j_sub [1] rfl (hk3 _)
  · refine j_iload C d6_suffixOf_17 1 rfl ?_
    refine j_iload C d6_suffixOf_18 0 rfl ?_
    refine j_iload C d6_suffixOf_19 2 rfl ?_
    refine j_callSI0 (As := [.int p0, .int v5]) C d6_suffixOf_21 ms6_22 (kX6_symbolOf _ _ tc p0 v5) ⟨rfl, rfl, Nat.le_of_ble_eq_true rfl, Nat.le_of_ble_eq_true rfl⟩ rfl [] rfl rfl rfl (Nat.le_of_ble_eq_true rfl) (fun x8 => ?_)
    refine j_callSI0 (As := [.int v4, .int x8]) C d6_suffixOf_24 ms6_26 (kX6_extended _ _ tc v4 x8) ⟨rfl, rfl, Nat.le_of_ble_eq_true rfl, Nat.le_of_ble_eq_true rfl⟩ rfl [] rfl rfl rfl (Nat.le_of_ble_eq_true rfl) (fun x9 => ?_)
    refine j_istore C d6_suffixOf_27 (by decide) (lv' := [(3, .int x9), (0, .int p0), (4, .int v5)]) rfl ?_
    refine j_iincN C (fun x10 => [(4, .int x10), (3, .int x9), (0, .int p0)]) d6_suffixOf_28 2 rfl (by decide +kernel) (by decide) (fun _ => rfl) (fun x10 => ?_)
    refine j_goto C d6_suffixOf_31 ?_
    exact j_sub [2, 1, 0] rfl (hrc6 _ _)

set_option maxHeartbeats 4000000 in
set_option maxRecDepth 100000 in
theorem kX6_suffixOf (l : Launch) (D : va_G) (tc : jTC) (N : Nat) (p0 : Int32) (p1 : Int32) (p2 : Int32) : ctI0 l D tc yX6_suffixOf (Cond.code yX6_suffixOf cX6_suffixOf 5 (some .int) :: jtb) ({ frames := 2, cells := 0, slots := 0, locals := 42 } : Room) [.int p0, .int p1, .int p2] [] (fX6_suffixOf N p0 p1 p2) := by
  refine ctI0_of (lv0 := [(0, .int p0), (1, .int p1), (2, .int p2)]) (by decide +kernel) (Nat.le_of_ble_eq_true rfl) rfl (fun X C => ?_)
  unfold fX6_suffixOf
  refine j_iload C d6_suffixOf_0 2 rfl ?_
  refine j_callSI0 (As := [.int p2]) C d6_suffixOf_1 ms6_29 (kX6_emptyOf _ _ tc p2) ⟨rfl, rfl, Nat.le_of_ble_eq_true rfl, Nat.le_of_ble_eq_true rfl⟩ rfl [] rfl rfl rfl (Nat.le_of_ble_eq_true rfl) (fun x1 => ?_)
  refine j_istore C d6_suffixOf_4 (by decide) (lv' := [(3, .int x1), (0, .int p0), (1, .int p1), (2, .int p2)]) rfl ?_
  refine j_iload C d6_suffixOf_5 2 rfl ?_
  refine j_istore C d6_suffixOf_6 (by decide) (lv' := [(4, .int p1), (3, .int x1), (0, .int p0), (1, .int p1), (2, .int p2)]) rfl ?_
  refine j_join 34 (fun v2 => []) (fun v2 => [(3, .int v2)]) (fun v2 => []) (fun v2 => ?_) (fun k3 hk3 => ?_)
  · refine j_iload C d6_suffixOf_34 0 rfl ?_
    exact j_iret0 C d6_suffixOf_35
  · exact j_sub [2, 1, 0] rfl (j_loop2 (fun v4 v5 => []) (fun v4 v5 => [(0, .int p0), (3, .int v4), (4, .int v5)]) (fun rc6 hrc6 v4 v5 => wX6_suffixOf_8 C p0 k3 hk3 rc6 hrc6 v4 v5) N _ _)

theorem d6_commonPrefix_0 : jdi cX6_commonPrefix 0 0 1 := Or.inl ⟨0, by decide +kernel⟩
theorem d6_commonPrefix_1 : jd cX6_commonPrefix 1 (.invokestatic 19) 3 4 := by decide +kernel
theorem d6_commonPrefix_4 : jdi cX6_commonPrefix 4 1 5 := Or.inl ⟨1, by decide +kernel⟩
theorem d6_commonPrefix_5 : jd cX6_commonPrefix 5 (.invokestatic 19) 3 8 := by decide +kernel
theorem d6_commonPrefix_8 : jd cX6_commonPrefix 8 (.invokestatic 32) 3 11 := by decide +kernel
theorem d6_commonPrefix_11 : jds cX6_commonPrefix 11 2 12 := Or.inl ⟨2, by decide +kernel⟩
theorem d6_commonPrefix_12 : jdk cX6_commonPrefix 12 0 13 := Or.inl ⟨0, by decide +kernel⟩
theorem d6_commonPrefix_13 : jds cX6_commonPrefix 13 3 14 := Or.inl ⟨3, by decide +kernel⟩
theorem d6_commonPrefix_14 : jdi cX6_commonPrefix 14 3 15 := Or.inl ⟨3, by decide +kernel⟩
theorem d6_commonPrefix_15 : jdi cX6_commonPrefix 15 2 16 := Or.inl ⟨2, by decide +kernel⟩
theorem d6_commonPrefix_16 : jdb cX6_commonPrefix 16 (.if_icmp .ge 24) 24 40 19 := by decide +kernel
theorem d6_commonPrefix_19 : jdi cX6_commonPrefix 19 0 20 := Or.inl ⟨0, by decide +kernel⟩
theorem d6_commonPrefix_20 : jdi cX6_commonPrefix 20 3 21 := Or.inl ⟨3, by decide +kernel⟩
theorem d6_commonPrefix_21 : jd cX6_commonPrefix 21 (.invokestatic 22) 3 24 := by decide +kernel
theorem d6_commonPrefix_24 : jdi cX6_commonPrefix 24 1 25 := Or.inl ⟨1, by decide +kernel⟩
theorem d6_commonPrefix_25 : jdi cX6_commonPrefix 25 3 26 := Or.inl ⟨3, by decide +kernel⟩
theorem d6_commonPrefix_26 : jd cX6_commonPrefix 26 (.invokestatic 22) 3 29 := by decide +kernel
theorem d6_commonPrefix_29 : jdb cX6_commonPrefix 29 (.if_icmp .eq 5) 5 34 32 := by decide +kernel
theorem d6_commonPrefix_32 : jdi cX6_commonPrefix 32 3 33 := Or.inl ⟨3, by decide +kernel⟩
theorem d6_commonPrefix_33 : decode cX6_commonPrefix 33 = .ok (.ireturn, 1) := by decide +kernel
theorem d6_commonPrefix_34 : jd cX6_commonPrefix 34 (.iinc 3 1) 3 37 := by decide +kernel
theorem d6_commonPrefix_37 : jdb cX6_commonPrefix 37 (.goto (-23)) (-23) 14 40 := by decide +kernel
theorem d6_commonPrefix_40 : jdi cX6_commonPrefix 40 2 41 := Or.inl ⟨2, by decide +kernel⟩
theorem d6_commonPrefix_41 : decode cX6_commonPrefix 41 = .ok (.ireturn, 1) := by decide +kernel
set_option maxHeartbeats 4000000 in
set_option maxRecDepth 100000 in
theorem wX6_commonPrefix_14 {X : jC} {tc : jTC} (C : jx X cX6_commonPrefix 4 RX6 (some .int) tc ({ frames := 1, cells := 0, slots := 0, locals := 40 } : Room)) (p0 : Int32) (p1 : Int32) (x3 : Int32) (k5 : (Unit → Option (Int32))) (hk5 : ∀ (v11 : Unit), jo X 4 (0, 0) (jQI0 X []) (k5 v11) [] 40 [(2, .int x3)] []) (rc7 : Int32 → Option (Int32)) (hrc7 : ∀ (v6 : Int32), jo X 4 (0, 0) (jQI0 X []) (rc7 v6) [] 14 [(0, .int p0), (1, .int p1), (2, .int x3), (3, .int v6)] []) (v6 : Int32) : jo X 4 (0, 0) (jQI0 X []) (bX6_commonPrefix_14 p0 p1 x3 k5 rc7 v6) [] 14 [(0, .int p0), (1, .int p1), (2, .int x3), (3, .int v6)] [] := by
  unfold bX6_commonPrefix_14
  refine j_iload C d6_commonPrefix_14 3 rfl ?_
  refine j_iload C d6_commonPrefix_15 2 rfl ?_
  refine j_icmp_ge C d6_commonPrefix_16 ?_ ?_
  · exact j_sub [2] rfl (hk5 _)
  · refine j_iload C d6_commonPrefix_19 0 rfl ?_
    refine j_iload C d6_commonPrefix_20 3 rfl ?_
    refine j_callSI0 (As := [.int p0, .int v6]) C d6_commonPrefix_21 ms6_22 (kX6_symbolOf _ _ tc p0 v6) ⟨rfl, rfl, Nat.le_of_ble_eq_true rfl, Nat.le_of_ble_eq_true rfl⟩ rfl [] rfl rfl rfl (Nat.le_of_ble_eq_true rfl) (fun x8 => ?_)
    refine j_iload C d6_commonPrefix_24 1 rfl ?_
    refine j_iload C d6_commonPrefix_25 3 rfl ?_
    refine j_callSI0 (As := [.int p1, .int v6]) C d6_commonPrefix_26 ms6_22 (kX6_symbolOf _ _ tc p1 v6) ⟨rfl, rfl, Nat.le_of_ble_eq_true rfl, Nat.le_of_ble_eq_true rfl⟩ rfl [] rfl rfl rfl (Nat.le_of_ble_eq_true rfl) (fun x9 => ?_)
    refine j_icmp_eq C d6_commonPrefix_29 ?_ ?_
    · refine j_iincN C (fun x10 => [(3, .int x10), (0, .int p0), (1, .int p1), (2, .int x3)]) d6_commonPrefix_34 3 rfl (by decide +kernel) (by decide) (fun _ => rfl) (fun x10 => ?_)
      refine j_goto C d6_commonPrefix_37 ?_
      exact j_sub [1, 2, 3, 0] rfl (hrc7 _)
    · refine j_iload C d6_commonPrefix_32 3 rfl ?_
      exact j_iret0 C d6_commonPrefix_33

set_option maxHeartbeats 4000000 in
set_option maxRecDepth 100000 in
theorem kX6_commonPrefix (l : Launch) (D : va_G) (tc : jTC) (N : Nat) (p0 : Int32) (p1 : Int32) : ctI0 l D tc yX6_commonPrefix (Cond.code yX6_commonPrefix cX6_commonPrefix 4 (some .int) :: jtb) ({ frames := 1, cells := 0, slots := 0, locals := 40 } : Room) [.int p0, .int p1] [] (fX6_commonPrefix N p0 p1) := by
  refine ctI0_of (lv0 := [(0, .int p0), (1, .int p1)]) (by decide +kernel) (Nat.le_of_ble_eq_true rfl) rfl (fun X C => ?_)
  unfold fX6_commonPrefix
  refine j_iload C d6_commonPrefix_0 0 rfl ?_
  refine j_callSI0 (As := [.int p0]) C d6_commonPrefix_1 ms6_19 (kX6_lengthOf _ _ tc p0) ⟨rfl, rfl, Nat.le_of_ble_eq_true rfl, Nat.le_of_ble_eq_true rfl⟩ rfl [] rfl rfl rfl (Nat.le_of_ble_eq_true rfl) (fun x1 => ?_)
  refine j_iload C d6_commonPrefix_4 1 rfl ?_
  refine j_callSI0 (As := [.int p1]) C d6_commonPrefix_5 ms6_19 (kX6_lengthOf _ _ tc p1) ⟨rfl, rfl, Nat.le_of_ble_eq_true rfl, Nat.le_of_ble_eq_true rfl⟩ rfl [] rfl rfl rfl (Nat.le_of_ble_eq_true rfl) (fun x2 => ?_)
  refine j_mmin C d6_commonPrefix_8 kj6_32 rfl ⟨Nat.le_of_ble_eq_true rfl, Nat.le_of_ble_eq_true rfl⟩ (Nat.le_of_ble_eq_true rfl) ?_
  refine j_leti (fun x3 => ?_)
  refine j_istore C d6_commonPrefix_11 (by decide) (lv' := [(2, .int x3), (0, .int p0), (1, .int p1)]) rfl ?_
  refine j_const C d6_commonPrefix_12 ?_
  refine j_istore C d6_commonPrefix_13 (by decide) (lv' := [(3, .int 0), (2, .int x3), (0, .int p0), (1, .int p1)]) rfl ?_
  refine j_join 40 (fun v4 => []) (fun v4 => [(2, .int x3)]) (fun v4 => []) (fun v4 => ?_) (fun k5 hk5 => ?_)
  · refine j_iload C d6_commonPrefix_40 0 rfl ?_
    exact j_iret0 C d6_commonPrefix_41
  · exact j_sub [2, 3, 1, 0] rfl (j_loop (fun v6 => []) (fun v6 => [(0, .int p0), (1, .int p1), (2, .int x3), (3, .int v6)]) (fun rc7 hrc7 v6 => wX6_commonPrefix_14 C p0 p1 x3 k5 hk5 rc7 hrc7 v6) N _)

theorem d6_find_0 : jdk cX6_find 0 0 1 := Or.inl ⟨0, by decide +kernel⟩
theorem d6_find_1 : jds cX6_find 1 2 2 := Or.inl ⟨2, by decide +kernel⟩
theorem d6_find_2 : jdi cX6_find 2 2 3 := Or.inl ⟨2, by decide +kernel⟩
theorem d6_find_3 : jda cX6_find 3 0 4 := Or.inl ⟨0, by decide +kernel⟩
theorem d6_find_4 : jd cX6_find 4 (.getfield 37) 3 7 := by decide +kernel
theorem d6_find_7 : jdb cX6_find 7 (.if_icmp .ge 21) 21 28 10 := by decide +kernel
theorem d6_find_10 : jda cX6_find 10 0 11 := Or.inl ⟨0, by decide +kernel⟩
theorem d6_find_11 : jd cX6_find 11 (.getfield 9) 3 14 := by decide +kernel
theorem d6_find_14 : jdi cX6_find 14 2 15 := Or.inl ⟨2, by decide +kernel⟩
theorem d6_find_15 : jd cX6_find 15 (.iaload) 1 16 := by decide +kernel
theorem d6_find_16 : jdi cX6_find 16 1 17 := Or.inl ⟨1, by decide +kernel⟩
theorem d6_find_17 : jdb cX6_find 17 (.if_icmp .ne 5) 5 22 20 := by decide +kernel
theorem d6_find_20 : jdi cX6_find 20 2 21 := Or.inl ⟨2, by decide +kernel⟩
theorem d6_find_21 : decode cX6_find 21 = .ok (.ireturn, 1) := by decide +kernel
theorem d6_find_22 : jd cX6_find 22 (.iinc 2 1) 3 25 := by decide +kernel
theorem d6_find_25 : jdb cX6_find 25 (.goto (-23)) (-23) 2 28 := by decide +kernel
theorem d6_find_28 : jdk cX6_find 28 (-1) 29 := Or.inl ⟨(-1), by decide +kernel⟩
theorem d6_find_29 : decode cX6_find 29 = .ok (.ireturn, 1) := by decide +kernel
set_option maxHeartbeats 4000000 in
set_option maxRecDepth 100000 in
theorem wX6_find_2 {X : jC} {tc : jTC} (C : jx X cX6_find 3 RX6 (some .int) tc ({ frames := 0, cells := 0, slots := 0, locals := 0 } : Room)) (h_ h_codes : Nat) (p1 : Int32) (c_codes : (Nat → Int32)) (c_count : Int32) (k2 : (Unit → Option (Int32))) (hk2 : ∀ (v7 : Unit), jo X 3 (0, 0) (jQI0 X [(h_, .inr (6, [.ref h_codes, .int c_count])), (h_codes, .inl (tc.1, 24, .inl c_codes))]) (k2 v7) [(h_, .inr (6, [.ref h_codes, .int c_count])), (h_codes, .inl (tc.1, 24, .inl c_codes))] 28 [] []) (rc4 : Int32 → Option (Int32)) (hrc4 : ∀ (v3 : Int32), jo X 3 (0, 0) (jQI0 X [(h_, .inr (6, [.ref h_codes, .int c_count])), (h_codes, .inl (tc.1, 24, .inl c_codes))]) (rc4 v3) [(h_, .inr (6, [.ref h_codes, .int c_count])), (h_codes, .inl (tc.1, 24, .inl c_codes))] 2 [(0, .ref h_), (1, .int p1), (2, .int v3)] []) (v3 : Int32) : jo X 3 (0, 0) (jQI0 X [(h_, .inr (6, [.ref h_codes, .int c_count])), (h_codes, .inl (tc.1, 24, .inl c_codes))]) (bX6_find_2 p1 c_codes c_count k2 rc4 v3) [(h_, .inr (6, [.ref h_codes, .int c_count])), (h_codes, .inl (tc.1, 24, .inl c_codes))] 2 [(0, .ref h_), (1, .int p1), (2, .int v3)] [] := by
  unfold bX6_find_2
  refine j_iload C d6_find_2 2 rfl ?_
  refine j_aload C d6_find_3 0 rfl ?_
  refine j_get C d6_find_4 fl6_37 0 rfl rfl ?_
  refine j_icmp_ge C d6_find_7 ?_ ?_
  · exact j_sub [] rfl (hk2 _)
  · refine j_aload C d6_find_10 0 rfl ?_
    refine j_get C d6_find_11 fl6_9 0 rfl rfl ?_
    refine j_iload C d6_find_14 2 rfl ?_
    refine j_iald C d6_find_15 1 rfl (fun x5 => ?_)
    refine j_iload C d6_find_16 1 rfl ?_
    refine j_icmp_ne C d6_find_17 ?_ ?_
    · refine j_iincN C (fun x6 => [(2, .int x6), (0, .ref h_), (1, .int p1)]) d6_find_22 2 rfl (by decide +kernel) (by decide) (fun _ => rfl) (fun x6 => ?_)
      refine j_goto C d6_find_25 ?_
      exact j_sub [1, 2, 0] rfl (hrc4 _)
    · refine j_iload C d6_find_20 2 rfl ?_
      exact j_iret0 C d6_find_21

set_option maxHeartbeats 4000000 in
set_option maxRecDepth 100000 in
theorem kX6_find (l : Launch) (D : va_G) (tc : jTC) (N : Nat) (h_ h_codes : Nat) (c_codes : (Nat → Int32)) (c_count : Int32) (p1 : Int32) : ctI0 l D tc yX6_find (Cond.code yX6_find cX6_find 3 (some .int) :: jtb) ({ frames := 0, cells := 0, slots := 0, locals := 0 } : Room) [.ref h_, .int p1] [(h_, .inr (6, [.ref h_codes, .int c_count])), (h_codes, .inl (tc.1, 24, .inl c_codes))] (fX6_find N c_codes c_count p1) := by
  refine ctI0_of (lv0 := [(0, .ref h_), (1, .int p1)]) (by decide +kernel) (Nat.le_of_ble_eq_true rfl) rfl (fun X C => ?_)
  unfold fX6_find
  refine j_const C d6_find_0 ?_
  refine j_istore C d6_find_1 (by decide) (lv' := [(2, .int 0), (0, .ref h_), (1, .int p1)]) rfl ?_
  refine j_join 28 (fun v1 => [(h_, .inr (6, [.ref h_codes, .int c_count])), (h_codes, .inl (tc.1, 24, .inl c_codes))]) (fun v1 => []) (fun v1 => []) (fun v1 => ?_) (fun k2 hk2 => ?_)
  · refine j_const C d6_find_28 ?_
    exact j_iret0 C d6_find_29
  · exact j_sub [1, 2, 0] rfl (j_loop (fun v3 => [(h_, .inr (6, [.ref h_codes, .int c_count])), (h_codes, .inl (tc.1, 24, .inl c_codes))]) (fun v3 => [(0, .ref h_), (1, .int p1), (2, .int v3)]) (fun rc4 hrc4 v3 => wX6_find_2 C h_ h_codes p1 c_codes c_count k2 hk2 rc4 hrc4 v3) N _)

theorem d6_add_0 : jda cX6_add 0 0 1 := Or.inl ⟨0, by decide +kernel⟩
theorem d6_add_1 : jd cX6_add 1 (.getfield 37) 3 4 := by decide +kernel
theorem d6_add_4 : jdk cX6_add 4 24 6 := Or.inr (Or.inl ⟨24, by decide +kernel⟩)
theorem d6_add_6 : jdb cX6_add 6 (.if_icmp .ge 23) 23 29 9 := by decide +kernel
theorem d6_add_9 : jda cX6_add 9 0 10 := Or.inl ⟨0, by decide +kernel⟩
theorem d6_add_10 : jd cX6_add 10 (.getfield 9) 3 13 := by decide +kernel
theorem d6_add_13 : jda cX6_add 13 0 14 := Or.inl ⟨0, by decide +kernel⟩
theorem d6_add_14 : jd cX6_add 14 (.getfield 37) 3 17 := by decide +kernel
theorem d6_add_17 : jdi cX6_add 17 1 18 := Or.inl ⟨1, by decide +kernel⟩
theorem d6_add_18 : jd cX6_add 18 (.iastore) 1 19 := by decide +kernel
theorem d6_add_19 : jda cX6_add 19 0 20 := Or.inl ⟨0, by decide +kernel⟩
theorem d6_add_20 : jd cX6_add 20 (.dup) 1 21 := by decide +kernel
theorem d6_add_21 : jd cX6_add 21 (.getfield 37) 3 24 := by decide +kernel
theorem d6_add_24 : jdk cX6_add 24 1 25 := Or.inl ⟨1, by decide +kernel⟩
theorem d6_add_25 : jd cX6_add 25 (.iadd) 1 26 := by decide +kernel
theorem d6_add_26 : jd cX6_add 26 (.putfield 37) 3 29 := by decide +kernel
theorem d6_add_29 : decode cX6_add 29 = .ok (.return_, 1) := by decide +kernel
set_option maxHeartbeats 4000000 in
set_option maxRecDepth 100000 in
theorem kX6_add (l : Launch) (D : va_G) (tc : jTC) (h_ h_codes : Nat) (c_codes : (Nat → Int32)) (c_count : Int32) (p1 : Int32) : ctV l D tc yX6_add (Cond.code yX6_add cX6_add 2 none :: jtb) ({ frames := 0, cells := 0, slots := 0, locals := 0 } : Room) [.ref h_, .int p1] [(h_, .inr (6, [.ref h_codes, .int c_count])), (h_codes, .inl (tc.1, 24, .inl c_codes))] (fX6_add c_codes c_count p1) (fun (u : (Nat → Int32) × Int32) => [(h_, .inr (6, [.ref h_codes, .int u.2])), (h_codes, .inl (tc.1, 24, .inl u.1))]) := by
  refine ctV_of (lv0 := [(0, .ref h_), (1, .int p1)]) (by decide +kernel) (Nat.le_of_ble_eq_true rfl) rfl (fun X C => ?_)
  unfold fX6_add
  refine j_aload C d6_add_0 0 rfl ?_
  refine j_get C d6_add_1 fl6_37 0 rfl rfl ?_
  refine j_const C d6_add_4 ?_
  refine j_join2 29 (fun v1 v2 => [(h_, .inr (6, [.ref h_codes, .int v2])), (h_codes, .inl (tc.1, 24, .inl v1))]) (fun v1 v2 => []) (fun v1 v2 => []) (fun v1 v2 => ?_) (fun k3 hk3 => ?_)
  · exact j_vret C d6_add_29 rfl
  · refine j_icmp_ge C d6_add_6 ?_ ?_
    · exact j_sub [] rfl (hk3 _ _)
    · refine j_aload C d6_add_9 0 rfl ?_
      refine j_get C d6_add_10 fl6_9 0 rfl rfl ?_
      refine j_aload C d6_add_13 0 rfl ?_
      refine j_get C d6_add_14 fl6_37 0 rfl rfl ?_
      refine j_iload C d6_add_17 1 rfl ?_
      refine j_iast C (fun f4 => [(h_, .inr (6, [.ref h_codes, .int c_count])), (h_codes, .inl (tc.1, 24, .inl f4))]) d6_add_18 1 rfl (fun _ => rfl) (fun f4 => ?_)
      refine j_aload C d6_add_19 0 rfl ?_
      refine j_dup C d6_add_20 rfl ?_
      refine j_get C d6_add_21 fl6_37 0 rfl rfl ?_
      refine j_const C d6_add_24 ?_
      refine j_iadd C d6_add_25 ?_
      refine j_leti (fun x5 => ?_)
      refine j_putq C d6_add_26 fq6_37 0 rfl rfl rfl (Nat.le_of_ble_eq_true rfl) (ws' := [(h_, .inr (6, [.ref h_codes, .int x5])), (h_codes, .inl (tc.1, 24, .inl f4))]) rfl ?_
      exact j_sub [] rfl (hk3 _ _)

theorem d6_removeAt_0 : jdi cX6_removeAt 0 1 1 := Or.inl ⟨1, by decide +kernel⟩
theorem d6_removeAt_1 : jdk cX6_removeAt 1 1 2 := Or.inl ⟨1, by decide +kernel⟩
theorem d6_removeAt_2 : jd cX6_removeAt 2 (.iadd) 1 3 := by decide +kernel
theorem d6_removeAt_3 : jds cX6_removeAt 3 2 4 := Or.inl ⟨2, by decide +kernel⟩
theorem d6_removeAt_4 : jdi cX6_removeAt 4 2 5 := Or.inl ⟨2, by decide +kernel⟩
theorem d6_removeAt_5 : jda cX6_removeAt 5 0 6 := Or.inl ⟨0, by decide +kernel⟩
theorem d6_removeAt_6 : jd cX6_removeAt 6 (.getfield 37) 3 9 := by decide +kernel
theorem d6_removeAt_9 : jdb cX6_removeAt 9 (.if_icmp .ge 23) 23 32 12 := by decide +kernel
theorem d6_removeAt_12 : jda cX6_removeAt 12 0 13 := Or.inl ⟨0, by decide +kernel⟩
theorem d6_removeAt_13 : jd cX6_removeAt 13 (.getfield 9) 3 16 := by decide +kernel
theorem d6_removeAt_16 : jdi cX6_removeAt 16 2 17 := Or.inl ⟨2, by decide +kernel⟩
theorem d6_removeAt_17 : jdk cX6_removeAt 17 1 18 := Or.inl ⟨1, by decide +kernel⟩
theorem d6_removeAt_18 : jd cX6_removeAt 18 (.isub) 1 19 := by decide +kernel
theorem d6_removeAt_19 : jda cX6_removeAt 19 0 20 := Or.inl ⟨0, by decide +kernel⟩
theorem d6_removeAt_20 : jd cX6_removeAt 20 (.getfield 9) 3 23 := by decide +kernel
theorem d6_removeAt_23 : jdi cX6_removeAt 23 2 24 := Or.inl ⟨2, by decide +kernel⟩
theorem d6_removeAt_24 : jd cX6_removeAt 24 (.iaload) 1 25 := by decide +kernel
theorem d6_removeAt_25 : jd cX6_removeAt 25 (.iastore) 1 26 := by decide +kernel
theorem d6_removeAt_26 : jd cX6_removeAt 26 (.iinc 2 1) 3 29 := by decide +kernel
theorem d6_removeAt_29 : jdb cX6_removeAt 29 (.goto (-25)) (-25) 4 32 := by decide +kernel
theorem d6_removeAt_32 : jda cX6_removeAt 32 0 33 := Or.inl ⟨0, by decide +kernel⟩
theorem d6_removeAt_33 : jd cX6_removeAt 33 (.dup) 1 34 := by decide +kernel
theorem d6_removeAt_34 : jd cX6_removeAt 34 (.getfield 37) 3 37 := by decide +kernel
theorem d6_removeAt_37 : jdk cX6_removeAt 37 1 38 := Or.inl ⟨1, by decide +kernel⟩
theorem d6_removeAt_38 : jd cX6_removeAt 38 (.isub) 1 39 := by decide +kernel
theorem d6_removeAt_39 : jd cX6_removeAt 39 (.putfield 37) 3 42 := by decide +kernel
theorem d6_removeAt_42 : decode cX6_removeAt 42 = .ok (.return_, 1) := by decide +kernel
set_option maxHeartbeats 4000000 in
set_option maxRecDepth 100000 in
theorem wX6_removeAt_4 {X : jC} {tc : jTC} (C : jx X cX6_removeAt 3 RX6 none tc ({ frames := 0, cells := 0, slots := 0, locals := 0 } : Room)) (h_ h_codes : Nat) (c_count : Int32) (k4 : ((Nat → Int32) → Option ((Nat → Int32) × Int32))) (hk4 : ∀ (v11 : (Nat → Int32)), jo X 3 (0, 0) (jQV X (fun (u : (Nat → Int32) × Int32) => [(h_, .inr (6, [.ref h_codes, .int u.2])), (h_codes, .inl (tc.1, 24, .inl u.1))])) (k4 v11) [(h_, .inr (6, [.ref h_codes, .int c_count])), (h_codes, .inl (tc.1, 24, .inl v11))] 32 [(0, .ref h_)] []) (rc7 : Int32 → (Nat → Int32) → Option ((Nat → Int32) × Int32)) (hrc7 : ∀ (v5 : Int32) (v6 : (Nat → Int32)), jo X 3 (0, 0) (jQV X (fun (u : (Nat → Int32) × Int32) => [(h_, .inr (6, [.ref h_codes, .int u.2])), (h_codes, .inl (tc.1, 24, .inl u.1))])) (rc7 v5 v6) [(h_, .inr (6, [.ref h_codes, .int c_count])), (h_codes, .inl (tc.1, 24, .inl v6))] 4 [(0, .ref h_), (2, .int v5)] []) (v5 : Int32) (v6 : (Nat → Int32)) : jo X 3 (0, 0) (jQV X (fun (u : (Nat → Int32) × Int32) => [(h_, .inr (6, [.ref h_codes, .int u.2])), (h_codes, .inl (tc.1, 24, .inl u.1))])) (bX6_removeAt_4 c_count k4 rc7 v5 v6) [(h_, .inr (6, [.ref h_codes, .int c_count])), (h_codes, .inl (tc.1, 24, .inl v6))] 4 [(0, .ref h_), (2, .int v5)] [] := by
  unfold bX6_removeAt_4
  refine j_iload C d6_removeAt_4 1 rfl ?_
  refine j_aload C d6_removeAt_5 0 rfl ?_
  refine j_get C d6_removeAt_6 fl6_37 0 rfl rfl ?_
  refine j_icmp_ge C d6_removeAt_9 ?_ ?_
  · exact j_sub [0] rfl (hk4 _)
  · refine j_aload C d6_removeAt_12 0 rfl ?_
    refine j_get C d6_removeAt_13 fl6_9 0 rfl rfl ?_
    refine j_iload C d6_removeAt_16 1 rfl ?_
    refine j_const C d6_removeAt_17 ?_
    refine j_isub C d6_removeAt_18 ?_
    refine j_aload C d6_removeAt_19 0 rfl ?_
    refine j_get C d6_removeAt_20 fl6_9 0 rfl rfl ?_
    refine j_iload C d6_removeAt_23 1 rfl ?_
    refine j_iald C d6_removeAt_24 1 rfl (fun x8 => ?_)
    refine j_iast C (fun f9 => [(h_, .inr (6, [.ref h_codes, .int c_count])), (h_codes, .inl (tc.1, 24, .inl f9))]) d6_removeAt_25 1 rfl (fun _ => rfl) (fun f9 => ?_)
    refine j_iincN C (fun x10 => [(2, .int x10), (0, .ref h_)]) d6_removeAt_26 1 rfl (by decide +kernel) (by decide) (fun _ => rfl) (fun x10 => ?_)
    refine j_goto C d6_removeAt_29 ?_
    exact j_sub [1, 0] rfl (hrc7 _ _)

set_option maxHeartbeats 4000000 in
set_option maxRecDepth 100000 in
theorem kX6_removeAt (l : Launch) (D : va_G) (tc : jTC) (N : Nat) (h_ h_codes : Nat) (c_codes : (Nat → Int32)) (c_count : Int32) (p1 : Int32) : ctV l D tc yX6_removeAt (Cond.code yX6_removeAt cX6_removeAt 3 none :: jtb) ({ frames := 0, cells := 0, slots := 0, locals := 0 } : Room) [.ref h_, .int p1] [(h_, .inr (6, [.ref h_codes, .int c_count])), (h_codes, .inl (tc.1, 24, .inl c_codes))] (fX6_removeAt N c_codes c_count p1) (fun (u : (Nat → Int32) × Int32) => [(h_, .inr (6, [.ref h_codes, .int u.2])), (h_codes, .inl (tc.1, 24, .inl u.1))]) := by
  refine ctV_of (lv0 := [(0, .ref h_), (1, .int p1)]) (by decide +kernel) (Nat.le_of_ble_eq_true rfl) rfl (fun X C => ?_)
  unfold fX6_removeAt
  refine j_iload C d6_removeAt_0 1 rfl ?_
  refine j_const C d6_removeAt_1 ?_
  refine j_iadd C d6_removeAt_2 ?_
  refine j_leti (fun x1 => ?_)
  refine j_istore C d6_removeAt_3 (by decide) (lv' := [(2, .int x1), (0, .ref h_), (1, .int p1)]) rfl ?_
  refine j_join 32 (fun v2 => [(h_, .inr (6, [.ref h_codes, .int c_count])), (h_codes, .inl (tc.1, 24, .inl v2))]) (fun v2 => [(0, .ref h_)]) (fun v2 => []) (fun v2 => ?_) (fun k4 hk4 => ?_)
  · refine j_aload C d6_removeAt_32 0 rfl ?_
    refine j_dup C d6_removeAt_33 rfl ?_
    refine j_get C d6_removeAt_34 fl6_37 0 rfl rfl ?_
    refine j_const C d6_removeAt_37 ?_
    refine j_isub C d6_removeAt_38 ?_
    refine j_leti (fun x3 => ?_)
    refine j_putq C d6_removeAt_39 fq6_37 0 rfl rfl rfl (Nat.le_of_ble_eq_true rfl) (ws' := [(h_, .inr (6, [.ref h_codes, .int x3])), (h_codes, .inl (tc.1, 24, .inl v2))]) rfl ?_
    exact j_vret C d6_removeAt_42 rfl
  · exact j_sub [1, 0] rfl (j_loop2 (fun v5 v6 => [(h_, .inr (6, [.ref h_codes, .int c_count])), (h_codes, .inl (tc.1, 24, .inl v6))]) (fun v5 v6 => [(0, .ref h_), (2, .int v5)]) (fun rc7 hrc7 v5 v6 => wX6_removeAt_4 C h_ h_codes c_count k4 hk4 rc7 hrc7 v5 v6) N _ _)

theorem d6_removeAll_0 : jda cX6_removeAll 0 0 1 := Or.inl ⟨0, by decide +kernel⟩
theorem d6_removeAll_1 : jdk cX6_removeAll 1 0 2 := Or.inl ⟨0, by decide +kernel⟩
theorem d6_removeAll_2 : jd cX6_removeAll 2 (.putfield 37) 3 5 := by decide +kernel
theorem d6_removeAll_5 : decode cX6_removeAll 5 = .ok (.return_, 1) := by decide +kernel
set_option maxHeartbeats 4000000 in
set_option maxRecDepth 100000 in
theorem kX6_removeAll (l : Launch) (D : va_G) (tc : jTC) (h_ : Nat) (g_codes : Value) (c_count : Int32) : ctV l D tc yX6_removeAll (Cond.code yX6_removeAll cX6_removeAll 1 none :: jtb) ({ frames := 0, cells := 0, slots := 0, locals := 0 } : Room) [.ref h_] [(h_, .inr (6, [g_codes, .int c_count]))] (fX6_removeAll c_count) (fun (u : Int32) => [(h_, .inr (6, [g_codes, .int u]))]) := by
  refine ctV_of (lv0 := [(0, .ref h_)]) (by decide +kernel) (Nat.le_of_ble_eq_true rfl) rfl (fun X C => ?_)
  unfold fX6_removeAll
  refine j_aload C d6_removeAll_0 0 rfl ?_
  refine j_const C d6_removeAll_1 ?_
  refine j_putq C d6_removeAll_2 fq6_37 0 rfl rfl rfl (Nat.le_of_ble_eq_true rfl) (ws' := [(h_, .inr (6, [g_codes, .int 0]))]) rfl ?_
  exact j_vret C d6_removeAll_5 rfl

theorem d6_become_0 : jda cX6_become 0 1 1 := Or.inl ⟨1, by decide +kernel⟩
theorem d6_become_1 : jd cX6_become 1 (.getfield 9) 3 4 := by decide +kernel
theorem d6_become_4 : jdk cX6_become 4 0 5 := Or.inl ⟨0, by decide +kernel⟩
theorem d6_become_5 : jda cX6_become 5 0 6 := Or.inl ⟨0, by decide +kernel⟩
theorem d6_become_6 : jd cX6_become 6 (.getfield 9) 3 9 := by decide +kernel
theorem d6_become_9 : jdk cX6_become 9 0 10 := Or.inl ⟨0, by decide +kernel⟩
theorem d6_become_10 : jda cX6_become 10 1 11 := Or.inl ⟨1, by decide +kernel⟩
theorem d6_become_11 : jd cX6_become 11 (.getfield 37) 3 14 := by decide +kernel
theorem d6_become_14 : jd cX6_become 14 (.invokestatic 41) 3 17 := by decide +kernel
theorem d6_become_17 : jda cX6_become 17 0 18 := Or.inl ⟨0, by decide +kernel⟩
theorem d6_become_18 : jda cX6_become 18 1 19 := Or.inl ⟨1, by decide +kernel⟩
theorem d6_become_19 : jd cX6_become 19 (.getfield 37) 3 22 := by decide +kernel
theorem d6_become_22 : jd cX6_become 22 (.putfield 37) 3 25 := by decide +kernel
theorem d6_become_25 : decode cX6_become 25 = .ok (.return_, 1) := by decide +kernel
set_option maxHeartbeats 4000000 in
set_option maxRecDepth 100000 in
theorem kX6_become (l : Launch) (D : va_G) (tc : jTC) (h_ h_codes h_p1 h_p1_codes : Nat) (c_codes : (Nat → Int32)) (c_count : Int32) (c_p1_codes : (Nat → Int32)) (c_p1_count : Int32) : ctV l D tc yX6_become (Cond.code yX6_become cX6_become 2 none :: jtb) ({ frames := 1, cells := 0, slots := 0, locals := 40 } : Room) [.ref h_, .ref h_p1] [(h_, .inr (6, [.ref h_codes, .int c_count])), (h_codes, .inl (tc.1, 24, .inl c_codes)), (h_p1, .inr (6, [.ref h_p1_codes, .int c_p1_count])), (h_p1_codes, .inl (tc.1, 24, .inl c_p1_codes))] (fX6_become c_codes c_count c_p1_codes c_p1_count) (fun (u : (Nat → Int32) × Int32) => [(h_, .inr (6, [.ref h_codes, .int u.2])), (h_codes, .inl (tc.1, 24, .inl u.1)), (h_p1, .inr (6, [.ref h_p1_codes, .int c_p1_count])), (h_p1_codes, .inl (tc.1, 24, .inl c_p1_codes))]) := by
  refine ctV_of (lv0 := [(0, .ref h_), (1, .ref h_p1)]) (by decide +kernel) (Nat.le_of_ble_eq_true rfl) rfl (fun X C => ?_)
  unfold fX6_become
  refine j_aload C d6_become_0 1 rfl ?_
  refine j_get C d6_become_1 fl6_9 2 rfl rfl ?_
  refine j_const C d6_become_4 ?_
  refine j_aload C d6_become_5 0 rfl ?_
  refine j_get C d6_become_6 fl6_9 0 rfl rfl ?_
  refine j_const C d6_become_9 ?_
  refine j_aload C d6_become_10 1 rfl ?_
  refine j_get C d6_become_11 fl6_37 2 rfl rfl ?_
  refine j_copyi C (fun f1 => [(h_, .inr (6, [.ref h_codes, .int c_count])), (h_codes, .inl (tc.1, 24, .inl f1)), (h_p1, .inr (6, [.ref h_p1_codes, .int c_p1_count])), (h_p1_codes, .inl (tc.1, 24, .inl c_p1_codes))]) d6_become_14 kj6_41 ⟨Nat.le_of_ble_eq_true rfl, Nat.le_of_ble_eq_true rfl⟩ (Nat.le_of_ble_eq_true rfl) 3 1 rfl rfl (fun _ => rfl) (fun f1 => ?_)
  refine j_aload C d6_become_17 0 rfl ?_
  refine j_aload C d6_become_18 1 rfl ?_
  refine j_get C d6_become_19 fl6_37 2 rfl rfl ?_
  refine j_putq C d6_become_22 fq6_37 0 rfl rfl rfl (Nat.le_of_ble_eq_true rfl) (ws' := [(h_, .inr (6, [.ref h_codes, .int c_p1_count])), (h_codes, .inl (tc.1, 24, .inl f1)), (h_p1, .inr (6, [.ref h_p1_codes, .int c_p1_count])), (h_p1_codes, .inl (tc.1, 24, .inl c_p1_codes))]) rfl ?_
  exact j_vret C d6_become_25 rfl

theorem d6_recursiveOf_0 : jdk cX6_recursiveOf 0 0 1 := Or.inl ⟨0, by decide +kernel⟩
theorem d6_recursiveOf_1 : jds cX6_recursiveOf 1 2 2 := Or.inl ⟨2, by decide +kernel⟩
theorem d6_recursiveOf_2 : jdk cX6_recursiveOf 2 0 3 := Or.inl ⟨0, by decide +kernel⟩
theorem d6_recursiveOf_3 : jds cX6_recursiveOf 3 3 4 := Or.inl ⟨3, by decide +kernel⟩
theorem d6_recursiveOf_4 : jdi cX6_recursiveOf 4 3 5 := Or.inl ⟨3, by decide +kernel⟩
theorem d6_recursiveOf_5 : jda cX6_recursiveOf 5 0 6 := Or.inl ⟨0, by decide +kernel⟩
theorem d6_recursiveOf_6 : jd cX6_recursiveOf 6 (.getfield 37) 3 9 := by decide +kernel
theorem d6_recursiveOf_9 : jdb cX6_recursiveOf 9 (.if_icmp .ge 37) 37 46 12 := by decide +kernel
theorem d6_recursiveOf_12 : jda cX6_recursiveOf 12 0 13 := Or.inl ⟨0, by decide +kernel⟩
theorem d6_recursiveOf_13 : jd cX6_recursiveOf 13 (.getfield 9) 3 16 := by decide +kernel
theorem d6_recursiveOf_16 : jdi cX6_recursiveOf 16 3 17 := Or.inl ⟨3, by decide +kernel⟩
theorem d6_recursiveOf_17 : jd cX6_recursiveOf 17 (.iaload) 1 18 := by decide +kernel
theorem d6_recursiveOf_18 : jdi cX6_recursiveOf 18 1 19 := Or.inl ⟨1, by decide +kernel⟩
theorem d6_recursiveOf_19 : jd cX6_recursiveOf 19 (.invokestatic 47) 3 22 := by decide +kernel
theorem d6_recursiveOf_22 : jdb cX6_recursiveOf 22 (.ifCond .eq 18) 18 40 25 := by decide +kernel
theorem d6_recursiveOf_25 : jda cX6_recursiveOf 25 0 26 := Or.inl ⟨0, by decide +kernel⟩
theorem d6_recursiveOf_26 : jd cX6_recursiveOf 26 (.getfield 9) 3 29 := by decide +kernel
theorem d6_recursiveOf_29 : jdi cX6_recursiveOf 29 3 30 := Or.inl ⟨3, by decide +kernel⟩
theorem d6_recursiveOf_30 : jd cX6_recursiveOf 30 (.iaload) 1 31 := by decide +kernel
theorem d6_recursiveOf_31 : jd cX6_recursiveOf 31 (.invokestatic 51) 3 34 := by decide +kernel
theorem d6_recursiveOf_34 : jdb cX6_recursiveOf 34 (.ifCond .eq 6) 6 40 37 := by decide +kernel
theorem d6_recursiveOf_37 : jd cX6_recursiveOf 37 (.iinc 2 1) 3 40 := by decide +kernel
theorem d6_recursiveOf_40 : jd cX6_recursiveOf 40 (.iinc 3 1) 3 43 := by decide +kernel
theorem d6_recursiveOf_43 : jdb cX6_recursiveOf 43 (.goto (-39)) (-39) 4 46 := by decide +kernel
theorem d6_recursiveOf_46 : jdi cX6_recursiveOf 46 2 47 := Or.inl ⟨2, by decide +kernel⟩
theorem d6_recursiveOf_47 : decode cX6_recursiveOf 47 = .ok (.ireturn, 1) := by decide +kernel
set_option maxHeartbeats 4000000 in
set_option maxRecDepth 100000 in
theorem wX6_recursiveOf_4 {X : jC} {tc : jTC} (C : jx X cX6_recursiveOf 4 RX6 (some .int) tc ({ frames := 2, cells := 0, slots := 0, locals := 41 } : Room)) (h_ h_codes : Nat) (p1 : Int32) (c_codes : (Nat → Int32)) (c_count : Int32) (k2 : (Int32 → Option (Int32))) (hk2 : ∀ (v14 : Int32), jo X 4 (0, 0) (jQI0 X [(h_, .inr (6, [.ref h_codes, .int c_count])), (h_codes, .inl (tc.1, 24, .inl c_codes))]) (k2 v14) [(h_, .inr (6, [.ref h_codes, .int c_count])), (h_codes, .inl (tc.1, 24, .inl c_codes))] 46 [(2, .int v14)] []) (rc5 : Int32 → Int32 → Option (Int32)) (hrc5 : ∀ (v3 : Int32) (v4 : Int32), jo X 4 (0, 0) (jQI0 X [(h_, .inr (6, [.ref h_codes, .int c_count])), (h_codes, .inl (tc.1, 24, .inl c_codes))]) (rc5 v3 v4) [(h_, .inr (6, [.ref h_codes, .int c_count])), (h_codes, .inl (tc.1, 24, .inl c_codes))] 4 [(0, .ref h_), (1, .int p1), (2, .int v3), (3, .int v4)] []) (v3 : Int32) (v4 : Int32) : jo X 4 (0, 0) (jQI0 X [(h_, .inr (6, [.ref h_codes, .int c_count])), (h_codes, .inl (tc.1, 24, .inl c_codes))]) (bX6_recursiveOf_4 p1 c_codes c_count k2 rc5 v3 v4) [(h_, .inr (6, [.ref h_codes, .int c_count])), (h_codes, .inl (tc.1, 24, .inl c_codes))] 4 [(0, .ref h_), (1, .int p1), (2, .int v3), (3, .int v4)] [] := by
  unfold bX6_recursiveOf_4
  refine j_iload C d6_recursiveOf_4 3 rfl ?_
  refine j_aload C d6_recursiveOf_5 0 rfl ?_
  refine j_get C d6_recursiveOf_6 fl6_37 0 rfl rfl ?_
  refine j_icmp_ge C d6_recursiveOf_9 ?_ ?_
  · exact j_sub [2] rfl (hk2 _)
  · refine j_aload C d6_recursiveOf_12 0 rfl ?_
    refine j_get C d6_recursiveOf_13 fl6_9 0 rfl rfl ?_
    refine j_iload C d6_recursiveOf_16 3 rfl ?_
    refine j_iald C d6_recursiveOf_17 1 rfl (fun x6 => ?_)
    refine j_iload C d6_recursiveOf_18 1 rfl ?_
    refine j_callSI0 (As := [.int x6, .int p1]) C d6_recursiveOf_19 ms6_47 (kX6_isOf _ _ tc x6 p1) ⟨rfl, rfl, Nat.le_of_ble_eq_true rfl, Nat.le_of_ble_eq_true rfl⟩ rfl [] rfl rfl rfl (Nat.le_of_ble_eq_true rfl) (fun x7 => ?_)
    refine j_join 40 (fun v8 => [(h_, .inr (6, [.ref h_codes, .int c_count])), (h_codes, .inl (tc.1, 24, .inl c_codes))]) (fun v8 => [(0, .ref h_), (1, .int p1), (2, .int v8), (3, .int v4)]) (fun v8 => []) (fun v8 => ?_) (fun k10 hk10 => ?_)
    · refine j_iincN C (fun x9 => [(3, .int x9), (0, .ref h_), (1, .int p1), (2, .int v8)]) d6_recursiveOf_40 3 rfl (by decide +kernel) (by decide) (fun _ => rfl) (fun x9 => ?_)
      refine j_goto C d6_recursiveOf_43 ?_
      exact j_sub [1, 2, 3, 0] rfl (hrc5 _ _)
    · refine j_if_eq C d6_recursiveOf_22 ?_ ?_
      · exact hk10 _
      · refine j_aload C d6_recursiveOf_25 0 rfl ?_
        refine j_get C d6_recursiveOf_26 fl6_9 0 rfl rfl ?_
        refine j_iload C d6_recursiveOf_29 3 rfl ?_
        refine j_iald C d6_recursiveOf_30 1 rfl (fun x11 => ?_)
        refine j_callSI0 (As := [.int x11]) C d6_recursiveOf_31 ms6_51 (kX6_isRecursive _ _ tc x11) ⟨rfl, rfl, Nat.le_of_ble_eq_true rfl, Nat.le_of_ble_eq_true rfl⟩ rfl [] rfl rfl rfl (Nat.le_of_ble_eq_true rfl) (fun x12 => ?_)
        refine j_if_eq C d6_recursiveOf_34 ?_ ?_
        · exact hk10 _
        · refine j_iincN C (fun x13 => [(2, .int x13), (0, .ref h_), (1, .int p1), (3, .int v4)]) d6_recursiveOf_37 2 rfl (by decide +kernel) (by decide) (fun _ => rfl) (fun x13 => ?_)
          exact j_sub [1, 2, 0, 3] rfl (hk10 _)

set_option maxHeartbeats 4000000 in
set_option maxRecDepth 100000 in
theorem kX6_recursiveOf (l : Launch) (D : va_G) (tc : jTC) (N : Nat) (h_ h_codes : Nat) (c_codes : (Nat → Int32)) (c_count : Int32) (p1 : Int32) : ctI0 l D tc yX6_recursiveOf (Cond.code yX6_recursiveOf cX6_recursiveOf 4 (some .int) :: jtb) ({ frames := 2, cells := 0, slots := 0, locals := 41 } : Room) [.ref h_, .int p1] [(h_, .inr (6, [.ref h_codes, .int c_count])), (h_codes, .inl (tc.1, 24, .inl c_codes))] (fX6_recursiveOf N c_codes c_count p1) := by
  refine ctI0_of (lv0 := [(0, .ref h_), (1, .int p1)]) (by decide +kernel) (Nat.le_of_ble_eq_true rfl) rfl (fun X C => ?_)
  unfold fX6_recursiveOf
  refine j_const C d6_recursiveOf_0 ?_
  refine j_istore C d6_recursiveOf_1 (by decide) (lv' := [(2, .int 0), (0, .ref h_), (1, .int p1)]) rfl ?_
  refine j_const C d6_recursiveOf_2 ?_
  refine j_istore C d6_recursiveOf_3 (by decide) (lv' := [(3, .int 0), (2, .int 0), (0, .ref h_), (1, .int p1)]) rfl ?_
  refine j_join 46 (fun v1 => [(h_, .inr (6, [.ref h_codes, .int c_count])), (h_codes, .inl (tc.1, 24, .inl c_codes))]) (fun v1 => [(2, .int v1)]) (fun v1 => []) (fun v1 => ?_) (fun k2 hk2 => ?_)
  · refine j_iload C d6_recursiveOf_46 0 rfl ?_
    exact j_iret0 C d6_recursiveOf_47
  · exact j_sub [2, 3, 1, 0] rfl (j_loop2 (fun v3 v4 => [(h_, .inr (6, [.ref h_codes, .int c_count])), (h_codes, .inl (tc.1, 24, .inl c_codes))]) (fun v3 v4 => [(0, .ref h_), (1, .int p1), (2, .int v3), (3, .int v4)]) (fun rc5 hrc5 v3 v4 => wX6_recursiveOf_4 C h_ h_codes p1 c_codes c_count k2 hk2 rc5 hrc5 v3 v4) N _ _)

theorem d6_lowestFilledOther_0 : jdk cX6_lowestFilledOther 0 0 1 := Or.inl ⟨0, by decide +kernel⟩
theorem d6_lowestFilledOther_1 : jds cX6_lowestFilledOther 1 2 2 := Or.inl ⟨2, by decide +kernel⟩
theorem d6_lowestFilledOther_2 : jdi cX6_lowestFilledOther 2 2 3 := Or.inl ⟨2, by decide +kernel⟩
theorem d6_lowestFilledOther_3 : jda cX6_lowestFilledOther 3 0 4 := Or.inl ⟨0, by decide +kernel⟩
theorem d6_lowestFilledOther_4 : jd cX6_lowestFilledOther 4 (.getfield 37) 3 7 := by decide +kernel
theorem d6_lowestFilledOther_7 : jdb cX6_lowestFilledOther 7 (.if_icmp .ge 41) 41 48 10 := by decide +kernel
theorem d6_lowestFilledOther_10 : jda cX6_lowestFilledOther 10 0 11 := Or.inl ⟨0, by decide +kernel⟩
theorem d6_lowestFilledOther_11 : jd cX6_lowestFilledOther 11 (.getfield 9) 3 14 := by decide +kernel
theorem d6_lowestFilledOther_14 : jdi cX6_lowestFilledOther 14 2 15 := Or.inl ⟨2, by decide +kernel⟩
theorem d6_lowestFilledOther_15 : jd cX6_lowestFilledOther 15 (.iaload) 1 16 := by decide +kernel
theorem d6_lowestFilledOther_16 : jds cX6_lowestFilledOther 16 3 17 := Or.inl ⟨3, by decide +kernel⟩
theorem d6_lowestFilledOther_17 : jdi cX6_lowestFilledOther 17 3 18 := Or.inl ⟨3, by decide +kernel⟩
theorem d6_lowestFilledOther_18 : jdi cX6_lowestFilledOther 18 1 19 := Or.inl ⟨1, by decide +kernel⟩
theorem d6_lowestFilledOther_19 : jd cX6_lowestFilledOther 19 (.invokestatic 47) 3 22 := by decide +kernel
theorem d6_lowestFilledOther_22 : jdb cX6_lowestFilledOther 22 (.ifCond .eq 20) 20 42 25 := by decide +kernel
theorem d6_lowestFilledOther_25 : jdi cX6_lowestFilledOther 25 3 26 := Or.inl ⟨3, by decide +kernel⟩
theorem d6_lowestFilledOther_26 : jd cX6_lowestFilledOther 26 (.invokestatic 51) 3 29 := by decide +kernel
theorem d6_lowestFilledOther_29 : jdb cX6_lowestFilledOther 29 (.ifCond .ne 13) 13 42 32 := by decide +kernel
theorem d6_lowestFilledOther_32 : jdi cX6_lowestFilledOther 32 3 33 := Or.inl ⟨3, by decide +kernel⟩
theorem d6_lowestFilledOther_33 : jd cX6_lowestFilledOther 33 (.invokestatic 19) 3 36 := by decide +kernel
theorem d6_lowestFilledOther_36 : jdk cX6_lowestFilledOther 36 5 37 := Or.inl ⟨5, by decide +kernel⟩
theorem d6_lowestFilledOther_37 : jdb cX6_lowestFilledOther 37 (.if_icmp .ne 5) 5 42 40 := by decide +kernel
theorem d6_lowestFilledOther_40 : jdi cX6_lowestFilledOther 40 2 41 := Or.inl ⟨2, by decide +kernel⟩
theorem d6_lowestFilledOther_41 : decode cX6_lowestFilledOther 41 = .ok (.ireturn, 1) := by decide +kernel
theorem d6_lowestFilledOther_42 : jd cX6_lowestFilledOther 42 (.iinc 2 1) 3 45 := by decide +kernel
theorem d6_lowestFilledOther_45 : jdb cX6_lowestFilledOther 45 (.goto (-43)) (-43) 2 48 := by decide +kernel
theorem d6_lowestFilledOther_48 : jdk cX6_lowestFilledOther 48 (-1) 49 := Or.inl ⟨(-1), by decide +kernel⟩
theorem d6_lowestFilledOther_49 : decode cX6_lowestFilledOther 49 = .ok (.ireturn, 1) := by decide +kernel
set_option maxHeartbeats 4000000 in
set_option maxRecDepth 100000 in
theorem wX6_lowestFilledOther_2 {X : jC} {tc : jTC} (C : jx X cX6_lowestFilledOther 4 RX6 (some .int) tc ({ frames := 2, cells := 0, slots := 0, locals := 41 } : Room)) (h_ h_codes : Nat) (p1 : Int32) (c_codes : (Nat → Int32)) (c_count : Int32) (k2 : (Unit → Option (Int32))) (hk2 : ∀ (v12 : Unit), jo X 4 (0, 0) (jQI0 X [(h_, .inr (6, [.ref h_codes, .int c_count])), (h_codes, .inl (tc.1, 24, .inl c_codes))]) (k2 v12) [(h_, .inr (6, [.ref h_codes, .int c_count])), (h_codes, .inl (tc.1, 24, .inl c_codes))] 48 [] []) (rc4 : Int32 → Option (Int32)) (hrc4 : ∀ (v3 : Int32), jo X 4 (0, 0) (jQI0 X [(h_, .inr (6, [.ref h_codes, .int c_count])), (h_codes, .inl (tc.1, 24, .inl c_codes))]) (rc4 v3) [(h_, .inr (6, [.ref h_codes, .int c_count])), (h_codes, .inl (tc.1, 24, .inl c_codes))] 2 [(0, .ref h_), (1, .int p1), (2, .int v3)] []) (v3 : Int32) : jo X 4 (0, 0) (jQI0 X [(h_, .inr (6, [.ref h_codes, .int c_count])), (h_codes, .inl (tc.1, 24, .inl c_codes))]) (bX6_lowestFilledOther_2 p1 c_codes c_count k2 rc4 v3) [(h_, .inr (6, [.ref h_codes, .int c_count])), (h_codes, .inl (tc.1, 24, .inl c_codes))] 2 [(0, .ref h_), (1, .int p1), (2, .int v3)] [] := by
  unfold bX6_lowestFilledOther_2
  refine j_iload C d6_lowestFilledOther_2 2 rfl ?_
  refine j_aload C d6_lowestFilledOther_3 0 rfl ?_
  refine j_get C d6_lowestFilledOther_4 fl6_37 0 rfl rfl ?_
  refine j_icmp_ge C d6_lowestFilledOther_7 ?_ ?_
  · exact j_sub [] rfl (hk2 _)
  · refine j_aload C d6_lowestFilledOther_10 0 rfl ?_
    refine j_get C d6_lowestFilledOther_11 fl6_9 0 rfl rfl ?_
    refine j_iload C d6_lowestFilledOther_14 2 rfl ?_
    refine j_iald C d6_lowestFilledOther_15 1 rfl (fun x5 => ?_)
    refine j_istore C d6_lowestFilledOther_16 (by decide) (lv' := [(3, .int x5), (0, .ref h_), (1, .int p1), (2, .int v3)]) rfl ?_
    refine j_iload C d6_lowestFilledOther_17 0 rfl ?_
    refine j_iload C d6_lowestFilledOther_18 2 rfl ?_
    refine j_callSI0 (As := [.int x5, .int p1]) C d6_lowestFilledOther_19 ms6_47 (kX6_isOf _ _ tc x5 p1) ⟨rfl, rfl, Nat.le_of_ble_eq_true rfl, Nat.le_of_ble_eq_true rfl⟩ rfl [] rfl rfl rfl (Nat.le_of_ble_eq_true rfl) (fun x6 => ?_)
    refine j_join 42 (fun v7 => [(h_, .inr (6, [.ref h_codes, .int c_count])), (h_codes, .inl (tc.1, 24, .inl c_codes))]) (fun v7 => [(0, .ref h_), (1, .int p1), (2, .int v3)]) (fun v7 => []) (fun v7 => ?_) (fun k9 hk9 => ?_)
    · refine j_iincN C (fun x8 => [(2, .int x8), (0, .ref h_), (1, .int p1)]) d6_lowestFilledOther_42 2 rfl (by decide +kernel) (by decide) (fun _ => rfl) (fun x8 => ?_)
      refine j_goto C d6_lowestFilledOther_45 ?_
      exact j_sub [1, 2, 0] rfl (hrc4 _)
    · refine j_if_eq C d6_lowestFilledOther_22 ?_ ?_
      · exact j_sub [1, 2, 3] rfl (hk9 _)
      · refine j_iload C d6_lowestFilledOther_25 0 rfl ?_
        refine j_callSI0 (As := [.int x5]) C d6_lowestFilledOther_26 ms6_51 (kX6_isRecursive _ _ tc x5) ⟨rfl, rfl, Nat.le_of_ble_eq_true rfl, Nat.le_of_ble_eq_true rfl⟩ rfl [] rfl rfl rfl (Nat.le_of_ble_eq_true rfl) (fun x10 => ?_)
        refine j_if_ne C d6_lowestFilledOther_29 ?_ ?_
        · exact j_sub [1, 2, 3] rfl (hk9 _)
        · refine j_iload C d6_lowestFilledOther_32 0 rfl ?_
          refine j_callSI0 (As := [.int x5]) C d6_lowestFilledOther_33 ms6_19 (kX6_lengthOf _ _ tc x5) ⟨rfl, rfl, Nat.le_of_ble_eq_true rfl, Nat.le_of_ble_eq_true rfl⟩ rfl [] rfl rfl rfl (Nat.le_of_ble_eq_true rfl) (fun x11 => ?_)
          refine j_const C d6_lowestFilledOther_36 ?_
          refine j_icmp_ne C d6_lowestFilledOther_37 ?_ ?_
          · exact j_sub [1, 2, 3] rfl (hk9 _)
          · refine j_iload C d6_lowestFilledOther_40 3 rfl ?_
            exact j_iret0 C d6_lowestFilledOther_41

set_option maxHeartbeats 4000000 in
set_option maxRecDepth 100000 in
theorem kX6_lowestFilledOther (l : Launch) (D : va_G) (tc : jTC) (N : Nat) (h_ h_codes : Nat) (c_codes : (Nat → Int32)) (c_count : Int32) (p1 : Int32) : ctI0 l D tc yX6_lowestFilledOther (Cond.code yX6_lowestFilledOther cX6_lowestFilledOther 4 (some .int) :: jtb) ({ frames := 2, cells := 0, slots := 0, locals := 41 } : Room) [.ref h_, .int p1] [(h_, .inr (6, [.ref h_codes, .int c_count])), (h_codes, .inl (tc.1, 24, .inl c_codes))] (fX6_lowestFilledOther N c_codes c_count p1) := by
  refine ctI0_of (lv0 := [(0, .ref h_), (1, .int p1)]) (by decide +kernel) (Nat.le_of_ble_eq_true rfl) rfl (fun X C => ?_)
  unfold fX6_lowestFilledOther
  refine j_const C d6_lowestFilledOther_0 ?_
  refine j_istore C d6_lowestFilledOther_1 (by decide) (lv' := [(2, .int 0), (0, .ref h_), (1, .int p1)]) rfl ?_
  refine j_join 48 (fun v1 => [(h_, .inr (6, [.ref h_codes, .int c_count])), (h_codes, .inl (tc.1, 24, .inl c_codes))]) (fun v1 => []) (fun v1 => []) (fun v1 => ?_) (fun k2 hk2 => ?_)
  · refine j_const C d6_lowestFilledOther_48 ?_
    exact j_iret0 C d6_lowestFilledOther_49
  · exact j_sub [1, 2, 0] rfl (j_loop (fun v3 => [(h_, .inr (6, [.ref h_codes, .int c_count])), (h_codes, .inl (tc.1, 24, .inl c_codes))]) (fun v3 => [(0, .ref h_), (1, .int p1), (2, .int v3)]) (fun rc4 hrc4 v3 => wX6_lowestFilledOther_2 C h_ h_codes p1 c_codes c_count k2 hk2 rc4 hrc4 v3) N _)

theorem d6_unusedNonterminal_0 : jdk cX6_unusedNonterminal 0 1 1 := Or.inl ⟨1, by decide +kernel⟩
theorem d6_unusedNonterminal_1 : jdk cX6_unusedNonterminal 1 1 2 := Or.inl ⟨1, by decide +kernel⟩
theorem d6_unusedNonterminal_2 : jdi cX6_unusedNonterminal 2 1 3 := Or.inl ⟨1, by decide +kernel⟩
theorem d6_unusedNonterminal_3 : jd cX6_unusedNonterminal 3 (.ishl) 1 4 := by decide +kernel
theorem d6_unusedNonterminal_4 : jd cX6_unusedNonterminal 4 (.ior) 1 5 := by decide +kernel
theorem d6_unusedNonterminal_5 : jds cX6_unusedNonterminal 5 2 6 := Or.inl ⟨2, by decide +kernel⟩
theorem d6_unusedNonterminal_6 : jdk cX6_unusedNonterminal 6 0 7 := Or.inl ⟨0, by decide +kernel⟩
theorem d6_unusedNonterminal_7 : jds cX6_unusedNonterminal 7 3 8 := Or.inl ⟨3, by decide +kernel⟩
theorem d6_unusedNonterminal_8 : jdi cX6_unusedNonterminal 8 3 9 := Or.inl ⟨3, by decide +kernel⟩
theorem d6_unusedNonterminal_9 : jda cX6_unusedNonterminal 9 0 10 := Or.inl ⟨0, by decide +kernel⟩
theorem d6_unusedNonterminal_10 : jd cX6_unusedNonterminal 10 (.getfield 37) 3 13 := by decide +kernel
theorem d6_unusedNonterminal_13 : jdb cX6_unusedNonterminal 13 (.if_icmp .ge 33) 33 46 16 := by decide +kernel
theorem d6_unusedNonterminal_16 : jda cX6_unusedNonterminal 16 0 17 := Or.inl ⟨0, by decide +kernel⟩
theorem d6_unusedNonterminal_17 : jd cX6_unusedNonterminal 17 (.getfield 9) 3 20 := by decide +kernel
theorem d6_unusedNonterminal_20 : jdi cX6_unusedNonterminal 20 3 21 := Or.inl ⟨3, by decide +kernel⟩
theorem d6_unusedNonterminal_21 : jd cX6_unusedNonterminal 21 (.iaload) 1 22 := by decide +kernel
theorem d6_unusedNonterminal_22 : jds cX6_unusedNonterminal 22 4 24 := Or.inr (by decide +kernel)
theorem d6_unusedNonterminal_24 : jdi cX6_unusedNonterminal 24 2 25 := Or.inl ⟨2, by decide +kernel⟩
theorem d6_unusedNonterminal_25 : jdk cX6_unusedNonterminal 25 1 26 := Or.inl ⟨1, by decide +kernel⟩
theorem d6_unusedNonterminal_26 : jdi cX6_unusedNonterminal 26 4 28 := Or.inr (by decide +kernel)
theorem d6_unusedNonterminal_28 : jd cX6_unusedNonterminal 28 (.invokestatic 15) 3 31 := by decide +kernel
theorem d6_unusedNonterminal_31 : jd cX6_unusedNonterminal 31 (.ishl) 1 32 := by decide +kernel
theorem d6_unusedNonterminal_32 : jdi cX6_unusedNonterminal 32 4 34 := Or.inr (by decide +kernel)
theorem d6_unusedNonterminal_34 : jd cX6_unusedNonterminal 34 (.invokestatic 55) 3 37 := by decide +kernel
theorem d6_unusedNonterminal_37 : jd cX6_unusedNonterminal 37 (.ior) 1 38 := by decide +kernel
theorem d6_unusedNonterminal_38 : jd cX6_unusedNonterminal 38 (.ior) 1 39 := by decide +kernel
theorem d6_unusedNonterminal_39 : jds cX6_unusedNonterminal 39 2 40 := Or.inl ⟨2, by decide +kernel⟩
theorem d6_unusedNonterminal_40 : jd cX6_unusedNonterminal 40 (.iinc 3 1) 3 43 := by decide +kernel
theorem d6_unusedNonterminal_43 : jdb cX6_unusedNonterminal 43 (.goto (-35)) (-35) 8 46 := by decide +kernel
theorem d6_unusedNonterminal_46 : jdk cX6_unusedNonterminal 46 0 47 := Or.inl ⟨0, by decide +kernel⟩
theorem d6_unusedNonterminal_47 : jds cX6_unusedNonterminal 47 3 48 := Or.inl ⟨3, by decide +kernel⟩
theorem d6_unusedNonterminal_48 : jdi cX6_unusedNonterminal 48 3 49 := Or.inl ⟨3, by decide +kernel⟩
theorem d6_unusedNonterminal_49 : jdk cX6_unusedNonterminal 49 8 51 := Or.inr (Or.inl ⟨8, by decide +kernel⟩)
theorem d6_unusedNonterminal_51 : jdb cX6_unusedNonterminal 51 (.if_icmp .ge 19) 19 70 54 := by decide +kernel
theorem d6_unusedNonterminal_54 : jdi cX6_unusedNonterminal 54 2 55 := Or.inl ⟨2, by decide +kernel⟩
theorem d6_unusedNonterminal_55 : jdi cX6_unusedNonterminal 55 3 56 := Or.inl ⟨3, by decide +kernel⟩
theorem d6_unusedNonterminal_56 : jd cX6_unusedNonterminal 56 (.invokestatic 58) 3 59 := by decide +kernel
theorem d6_unusedNonterminal_59 : jdb cX6_unusedNonterminal 59 (.ifCond .ne 5) 5 64 62 := by decide +kernel
theorem d6_unusedNonterminal_62 : jdi cX6_unusedNonterminal 62 3 63 := Or.inl ⟨3, by decide +kernel⟩
theorem d6_unusedNonterminal_63 : decode cX6_unusedNonterminal 63 = .ok (.ireturn, 1) := by decide +kernel
theorem d6_unusedNonterminal_64 : jd cX6_unusedNonterminal 64 (.iinc 3 1) 3 67 := by decide +kernel
theorem d6_unusedNonterminal_67 : jdb cX6_unusedNonterminal 67 (.goto (-19)) (-19) 48 70 := by decide +kernel
theorem d6_unusedNonterminal_70 : jdk cX6_unusedNonterminal 70 (-1) 71 := Or.inl ⟨(-1), by decide +kernel⟩
theorem d6_unusedNonterminal_71 : decode cX6_unusedNonterminal 71 = .ok (.ireturn, 1) := by decide +kernel
set_option maxHeartbeats 4000000 in
set_option maxRecDepth 100000 in
theorem wX6_unusedNonterminal_48 {X : jC} {tc : jTC} (C : jx X cX6_unusedNonterminal 5 RX6 (some .int) tc ({ frames := 2, cells := 0, slots := 0, locals := 44 } : Room)) (h_ h_codes : Nat) (c_codes : (Nat → Int32)) (c_count : Int32) (v2 : Int32) (k4 : (Unit → Option (Int32))) (hk4 : ∀ (v9 : Unit), jo X 5 (0, 0) (jQI0 X [(h_, .inr (6, [.ref h_codes, .int c_count])), (h_codes, .inl (tc.1, 24, .inl c_codes))]) (k4 v9) [(h_, .inr (6, [.ref h_codes, .int c_count])), (h_codes, .inl (tc.1, 24, .inl c_codes))] 70 [] []) (rc6 : Int32 → Option (Int32)) (hrc6 : ∀ (v5 : Int32), jo X 5 (0, 0) (jQI0 X [(h_, .inr (6, [.ref h_codes, .int c_count])), (h_codes, .inl (tc.1, 24, .inl c_codes))]) (rc6 v5) [(h_, .inr (6, [.ref h_codes, .int c_count])), (h_codes, .inl (tc.1, 24, .inl c_codes))] 48 [(2, .int v2), (3, .int v5)] []) (v5 : Int32) : jo X 5 (0, 0) (jQI0 X [(h_, .inr (6, [.ref h_codes, .int c_count])), (h_codes, .inl (tc.1, 24, .inl c_codes))]) (bX6_unusedNonterminal_48 v2 k4 rc6 v5) [(h_, .inr (6, [.ref h_codes, .int c_count])), (h_codes, .inl (tc.1, 24, .inl c_codes))] 48 [(2, .int v2), (3, .int v5)] [] := by
  unfold bX6_unusedNonterminal_48
  refine j_iload C d6_unusedNonterminal_48 1 rfl ?_
  refine j_const C d6_unusedNonterminal_49 ?_
  refine j_icmp_ge C d6_unusedNonterminal_51 ?_ ?_
  · exact j_sub [] rfl (hk4 _)
  · refine j_iload C d6_unusedNonterminal_54 0 rfl ?_
    refine j_iload C d6_unusedNonterminal_55 1 rfl ?_
    refine j_callNI0 (As := [.int v2, .int v5]) C d6_unusedNonterminal_56 mn6_58 (kX11_bit _ _ tc v2 v5) ⟨rfl, rfl, Nat.le_of_ble_eq_true rfl, Nat.le_of_ble_eq_true rfl⟩ rfl [] rfl rfl rfl (Nat.le_of_ble_eq_true rfl) (fun x7 => ?_)
    refine j_if_ne C d6_unusedNonterminal_59 ?_ ?_
    · refine j_iincN C (fun x8 => [(3, .int x8), (2, .int v2)]) d6_unusedNonterminal_64 1 rfl (by decide +kernel) (by decide) (fun _ => rfl) (fun x8 => ?_)
      refine j_goto C d6_unusedNonterminal_67 ?_
      exact j_sub [1, 0] rfl (hrc6 _)
    · refine j_iload C d6_unusedNonterminal_62 1 rfl ?_
      exact j_iret0 C d6_unusedNonterminal_63

set_option maxHeartbeats 4000000 in
set_option maxRecDepth 100000 in
theorem wX6_unusedNonterminal_8 {X : jC} {tc : jTC} (C : jx X cX6_unusedNonterminal 5 RX6 (some .int) tc ({ frames := 2, cells := 0, slots := 0, locals := 44 } : Room)) (N : Nat) (h_ h_codes : Nat) (c_codes : (Nat → Int32)) (c_count : Int32) (k10 : (Int32 → Option (Int32))) (hk10 : ∀ (v19 : Int32), jo X 5 (0, 0) (jQI0 X [(h_, .inr (6, [.ref h_codes, .int c_count])), (h_codes, .inl (tc.1, 24, .inl c_codes))]) (k10 v19) [(h_, .inr (6, [.ref h_codes, .int c_count])), (h_codes, .inl (tc.1, 24, .inl c_codes))] 46 [(2, .int v19)] []) (rc13 : Int32 → Int32 → Option (Int32)) (hrc13 : ∀ (v11 : Int32) (v12 : Int32), jo X 5 (0, 0) (jQI0 X [(h_, .inr (6, [.ref h_codes, .int c_count])), (h_codes, .inl (tc.1, 24, .inl c_codes))]) (rc13 v11 v12) [(h_, .inr (6, [.ref h_codes, .int c_count])), (h_codes, .inl (tc.1, 24, .inl c_codes))] 8 [(0, .ref h_), (2, .int v11), (3, .int v12)] []) (v11 : Int32) (v12 : Int32) : jo X 5 (0, 0) (jQI0 X [(h_, .inr (6, [.ref h_codes, .int c_count])), (h_codes, .inl (tc.1, 24, .inl c_codes))]) (bX6_unusedNonterminal_8 N c_codes c_count k10 rc13 v11 v12) [(h_, .inr (6, [.ref h_codes, .int c_count])), (h_codes, .inl (tc.1, 24, .inl c_codes))] 8 [(0, .ref h_), (2, .int v11), (3, .int v12)] [] := by
  unfold bX6_unusedNonterminal_8
  refine j_iload C d6_unusedNonterminal_8 2 rfl ?_
  refine j_aload C d6_unusedNonterminal_9 0 rfl ?_
  refine j_get C d6_unusedNonterminal_10 fl6_37 0 rfl rfl ?_
  refine j_icmp_ge C d6_unusedNonterminal_13 ?_ ?_
  · exact j_sub [1] rfl (hk10 _)
  · refine j_aload C d6_unusedNonterminal_16 0 rfl ?_
    refine j_get C d6_unusedNonterminal_17 fl6_9 0 rfl rfl ?_
    refine j_iload C d6_unusedNonterminal_20 2 rfl ?_
    refine j_iald C d6_unusedNonterminal_21 1 rfl (fun x14 => ?_)
    refine j_istore C d6_unusedNonterminal_22 (by decide) (lv' := [(4, .int x14), (0, .ref h_), (2, .int v11), (3, .int v12)]) rfl ?_
    refine j_iload C d6_unusedNonterminal_24 2 rfl ?_
    refine j_const C d6_unusedNonterminal_25 ?_
    refine j_iload C d6_unusedNonterminal_26 0 rfl ?_
    refine j_callSI0 (As := [.int x14]) C d6_unusedNonterminal_28 ms6_15 (kX6_leftOf _ _ tc x14) ⟨rfl, rfl, Nat.le_of_ble_eq_true rfl, Nat.le_of_ble_eq_true rfl⟩ rfl [] rfl rfl rfl (Nat.le_of_ble_eq_true rfl) (fun x15 => ?_)
    refine j_ishl C d6_unusedNonterminal_31 ?_
    refine j_iload C d6_unusedNonterminal_32 0 rfl ?_
    refine j_callSI0 (As := [.int x14]) C d6_unusedNonterminal_34 ms6_55 (kX6_nonterminalsIn _ _ tc N x14) ⟨rfl, rfl, Nat.le_of_ble_eq_true rfl, Nat.le_of_ble_eq_true rfl⟩ rfl [] rfl rfl rfl (Nat.le_of_ble_eq_true rfl) (fun x16 => ?_)
    refine j_ior C d6_unusedNonterminal_37 ?_
    refine j_ior C d6_unusedNonterminal_38 ?_
    refine j_leti (fun x17 => ?_)
    refine j_istore C d6_unusedNonterminal_39 (by decide) (lv' := [(2, .int x17), (4, .int x14), (0, .ref h_), (3, .int v12)]) rfl ?_
    refine j_iincN C (fun x18 => [(3, .int x18), (2, .int x17), (4, .int x14), (0, .ref h_)]) d6_unusedNonterminal_40 3 rfl (by decide +kernel) (by decide) (fun _ => rfl) (fun x18 => ?_)
    refine j_goto C d6_unusedNonterminal_43 ?_
    exact j_sub [3, 1, 0] rfl (hrc13 _ _)

set_option maxHeartbeats 4000000 in
set_option maxRecDepth 100000 in
theorem kX6_unusedNonterminal (l : Launch) (D : va_G) (tc : jTC) (N : Nat) (h_ h_codes : Nat) (c_codes : (Nat → Int32)) (c_count : Int32) (p1 : Int32) : ctI0 l D tc yX6_unusedNonterminal (Cond.code yX6_unusedNonterminal cX6_unusedNonterminal 5 (some .int) :: jtb) ({ frames := 2, cells := 0, slots := 0, locals := 44 } : Room) [.ref h_, .int p1] [(h_, .inr (6, [.ref h_codes, .int c_count])), (h_codes, .inl (tc.1, 24, .inl c_codes))] (fX6_unusedNonterminal N c_codes c_count p1) := by
  refine ctI0_of (lv0 := [(0, .ref h_), (1, .int p1)]) (by decide +kernel) (Nat.le_of_ble_eq_true rfl) rfl (fun X C => ?_)
  unfold fX6_unusedNonterminal
  refine j_const C d6_unusedNonterminal_0 ?_
  refine j_const C d6_unusedNonterminal_1 ?_
  refine j_iload C d6_unusedNonterminal_2 1 rfl ?_
  refine j_ishl C d6_unusedNonterminal_3 ?_
  refine j_ior C d6_unusedNonterminal_4 ?_
  refine j_leti (fun x1 => ?_)
  refine j_istore C d6_unusedNonterminal_5 (by decide) (lv' := [(2, .int x1), (0, .ref h_), (1, .int p1)]) rfl ?_
  refine j_const C d6_unusedNonterminal_6 ?_
  refine j_istore C d6_unusedNonterminal_7 (by decide) (lv' := [(3, .int 0), (2, .int x1), (0, .ref h_), (1, .int p1)]) rfl ?_
  refine j_join 46 (fun v2 => [(h_, .inr (6, [.ref h_codes, .int c_count])), (h_codes, .inl (tc.1, 24, .inl c_codes))]) (fun v2 => [(2, .int v2)]) (fun v2 => []) (fun v2 => ?_) (fun k10 hk10 => ?_)
  · refine j_const C d6_unusedNonterminal_46 ?_
    refine j_istore C d6_unusedNonterminal_47 (by decide) (lv' := [(3, .int 0), (2, .int v2)]) rfl ?_
    refine j_join 70 (fun v3 => [(h_, .inr (6, [.ref h_codes, .int c_count])), (h_codes, .inl (tc.1, 24, .inl c_codes))]) (fun v3 => []) (fun v3 => []) (fun v3 => ?_) (fun k4 hk4 => ?_)
    · refine j_const C d6_unusedNonterminal_70 ?_
      exact j_iret0 C d6_unusedNonterminal_71
    · exact j_sub [1, 0] rfl (j_loop (fun v5 => [(h_, .inr (6, [.ref h_codes, .int c_count])), (h_codes, .inl (tc.1, 24, .inl c_codes))]) (fun v5 => [(2, .int v2), (3, .int v5)]) (fun rc6 hrc6 v5 => wX6_unusedNonterminal_48 C h_ h_codes c_codes c_count v2 k4 hk4 rc6 hrc6 v5) N _)
  · exact j_sub [2, 1, 0] rfl (j_loop2 (fun v11 v12 => [(h_, .inr (6, [.ref h_codes, .int c_count])), (h_codes, .inl (tc.1, 24, .inl c_codes))]) (fun v11 v12 => [(0, .ref h_), (2, .int v11), (3, .int v12)]) (fun rc13 hrc13 v11 v12 => wX6_unusedNonterminal_8 C N h_ h_codes c_codes c_count k10 hk10 rc13 hrc13 v11 v12) N _ _)

theorem d6_prefixSharedAfter_0 : jdk cX6_prefixSharedAfter 0 0 1 := Or.inl ⟨0, by decide +kernel⟩
theorem d6_prefixSharedAfter_1 : jds cX6_prefixSharedAfter 1 3 2 := Or.inl ⟨3, by decide +kernel⟩
theorem d6_prefixSharedAfter_2 : jdi cX6_prefixSharedAfter 2 1 3 := Or.inl ⟨1, by decide +kernel⟩
theorem d6_prefixSharedAfter_3 : jdk cX6_prefixSharedAfter 3 1 4 := Or.inl ⟨1, by decide +kernel⟩
theorem d6_prefixSharedAfter_4 : jd cX6_prefixSharedAfter 4 (.iadd) 1 5 := by decide +kernel
theorem d6_prefixSharedAfter_5 : jds cX6_prefixSharedAfter 5 4 7 := Or.inr (by decide +kernel)
theorem d6_prefixSharedAfter_7 : jdi cX6_prefixSharedAfter 7 4 9 := Or.inr (by decide +kernel)
theorem d6_prefixSharedAfter_9 : jda cX6_prefixSharedAfter 9 0 10 := Or.inl ⟨0, by decide +kernel⟩
theorem d6_prefixSharedAfter_10 : jd cX6_prefixSharedAfter 10 (.getfield 37) 3 13 := by decide +kernel
theorem d6_prefixSharedAfter_13 : jdb cX6_prefixSharedAfter 13 (.if_icmp .ge 57) 57 70 16 := by decide +kernel
theorem d6_prefixSharedAfter_16 : jda cX6_prefixSharedAfter 16 0 17 := Or.inl ⟨0, by decide +kernel⟩
theorem d6_prefixSharedAfter_17 : jd cX6_prefixSharedAfter 17 (.getfield 9) 3 20 := by decide +kernel
theorem d6_prefixSharedAfter_20 : jdi cX6_prefixSharedAfter 20 1 21 := Or.inl ⟨1, by decide +kernel⟩
theorem d6_prefixSharedAfter_21 : jd cX6_prefixSharedAfter 21 (.iaload) 1 22 := by decide +kernel
theorem d6_prefixSharedAfter_22 : jdi cX6_prefixSharedAfter 22 2 23 := Or.inl ⟨2, by decide +kernel⟩
theorem d6_prefixSharedAfter_23 : jd cX6_prefixSharedAfter 23 (.invokestatic 47) 3 26 := by decide +kernel
theorem d6_prefixSharedAfter_26 : jdb cX6_prefixSharedAfter 26 (.ifCond .eq 44) 44 70 29 := by decide +kernel
theorem d6_prefixSharedAfter_29 : jda cX6_prefixSharedAfter 29 0 30 := Or.inl ⟨0, by decide +kernel⟩
theorem d6_prefixSharedAfter_30 : jd cX6_prefixSharedAfter 30 (.getfield 9) 3 33 := by decide +kernel
theorem d6_prefixSharedAfter_33 : jdi cX6_prefixSharedAfter 33 4 35 := Or.inr (by decide +kernel)
theorem d6_prefixSharedAfter_35 : jd cX6_prefixSharedAfter 35 (.iaload) 1 36 := by decide +kernel
theorem d6_prefixSharedAfter_36 : jdi cX6_prefixSharedAfter 36 2 37 := Or.inl ⟨2, by decide +kernel⟩
theorem d6_prefixSharedAfter_37 : jd cX6_prefixSharedAfter 37 (.invokestatic 47) 3 40 := by decide +kernel
theorem d6_prefixSharedAfter_40 : jdb cX6_prefixSharedAfter 40 (.ifCond .eq 24) 24 64 43 := by decide +kernel
theorem d6_prefixSharedAfter_43 : jdi cX6_prefixSharedAfter 43 3 44 := Or.inl ⟨3, by decide +kernel⟩
theorem d6_prefixSharedAfter_44 : jda cX6_prefixSharedAfter 44 0 45 := Or.inl ⟨0, by decide +kernel⟩
theorem d6_prefixSharedAfter_45 : jd cX6_prefixSharedAfter 45 (.getfield 9) 3 48 := by decide +kernel
theorem d6_prefixSharedAfter_48 : jdi cX6_prefixSharedAfter 48 1 49 := Or.inl ⟨1, by decide +kernel⟩
theorem d6_prefixSharedAfter_49 : jd cX6_prefixSharedAfter 49 (.iaload) 1 50 := by decide +kernel
theorem d6_prefixSharedAfter_50 : jda cX6_prefixSharedAfter 50 0 51 := Or.inl ⟨0, by decide +kernel⟩
theorem d6_prefixSharedAfter_51 : jd cX6_prefixSharedAfter 51 (.getfield 9) 3 54 := by decide +kernel
theorem d6_prefixSharedAfter_54 : jdi cX6_prefixSharedAfter 54 4 56 := Or.inr (by decide +kernel)
theorem d6_prefixSharedAfter_56 : jd cX6_prefixSharedAfter 56 (.iaload) 1 57 := by decide +kernel
theorem d6_prefixSharedAfter_57 : jd cX6_prefixSharedAfter 57 (.invokestatic 67) 3 60 := by decide +kernel
theorem d6_prefixSharedAfter_60 : jd cX6_prefixSharedAfter 60 (.invokestatic 64) 3 63 := by decide +kernel
theorem d6_prefixSharedAfter_63 : jds cX6_prefixSharedAfter 63 3 64 := Or.inl ⟨3, by decide +kernel⟩
theorem d6_prefixSharedAfter_64 : jd cX6_prefixSharedAfter 64 (.iinc 4 1) 3 67 := by decide +kernel
theorem d6_prefixSharedAfter_67 : jdb cX6_prefixSharedAfter 67 (.goto (-60)) (-60) 7 70 := by decide +kernel
theorem d6_prefixSharedAfter_70 : jdi cX6_prefixSharedAfter 70 3 71 := Or.inl ⟨3, by decide +kernel⟩
theorem d6_prefixSharedAfter_71 : decode cX6_prefixSharedAfter 71 = .ok (.ireturn, 1) := by decide +kernel
set_option maxHeartbeats 4000000 in
set_option maxRecDepth 100000 in
theorem wX6_prefixSharedAfter_7 {X : jC} {tc : jTC} (C : jx X cX6_prefixSharedAfter 5 RX6 (some .int) tc ({ frames := 2, cells := 0, slots := 0, locals := 63 } : Room)) (N : Nat) (h_ h_codes : Nat) (p1 : Int32) (p2 : Int32) (c_codes : (Nat → Int32)) (c_count : Int32) (k3 : (Int32 → Option (Int32))) (hk3 : ∀ (v18 : Int32), jo X 5 (0, 0) (jQI0 X [(h_, .inr (6, [.ref h_codes, .int c_count])), (h_codes, .inl (tc.1, 24, .inl c_codes))]) (k3 v18) [(h_, .inr (6, [.ref h_codes, .int c_count])), (h_codes, .inl (tc.1, 24, .inl c_codes))] 70 [(3, .int v18)] []) (rc6 : Int32 → Int32 → Option (Int32)) (hrc6 : ∀ (v4 : Int32) (v5 : Int32), jo X 5 (0, 0) (jQI0 X [(h_, .inr (6, [.ref h_codes, .int c_count])), (h_codes, .inl (tc.1, 24, .inl c_codes))]) (rc6 v4 v5) [(h_, .inr (6, [.ref h_codes, .int c_count])), (h_codes, .inl (tc.1, 24, .inl c_codes))] 7 [(0, .ref h_), (1, .int p1), (2, .int p2), (3, .int v4), (4, .int v5)] []) (v4 : Int32) (v5 : Int32) : jo X 5 (0, 0) (jQI0 X [(h_, .inr (6, [.ref h_codes, .int c_count])), (h_codes, .inl (tc.1, 24, .inl c_codes))]) (bX6_prefixSharedAfter_7 N p1 p2 c_codes c_count k3 rc6 v4 v5) [(h_, .inr (6, [.ref h_codes, .int c_count])), (h_codes, .inl (tc.1, 24, .inl c_codes))] 7 [(0, .ref h_), (1, .int p1), (2, .int p2), (3, .int v4), (4, .int v5)] [] := by
  unfold bX6_prefixSharedAfter_7
  refine j_iload C d6_prefixSharedAfter_7 4 rfl ?_
  refine j_aload C d6_prefixSharedAfter_9 0 rfl ?_
  refine j_get C d6_prefixSharedAfter_10 fl6_37 0 rfl rfl ?_
  refine j_icmp_ge C d6_prefixSharedAfter_13 ?_ ?_
  · exact j_sub [3] rfl (hk3 _)
  · refine j_aload C d6_prefixSharedAfter_16 0 rfl ?_
    refine j_get C d6_prefixSharedAfter_17 fl6_9 0 rfl rfl ?_
    refine j_iload C d6_prefixSharedAfter_20 1 rfl ?_
    refine j_iald C d6_prefixSharedAfter_21 1 rfl (fun x7 => ?_)
    refine j_iload C d6_prefixSharedAfter_22 2 rfl ?_
    refine j_callSI0 (As := [.int x7, .int p2]) C d6_prefixSharedAfter_23 ms6_47 (kX6_isOf _ _ tc x7 p2) ⟨rfl, rfl, Nat.le_of_ble_eq_true rfl, Nat.le_of_ble_eq_true rfl⟩ rfl [] rfl rfl rfl (Nat.le_of_ble_eq_true rfl) (fun x8 => ?_)
    refine j_if_eq C d6_prefixSharedAfter_26 ?_ ?_
    · exact j_sub [3] rfl (hk3 _)
    · refine j_aload C d6_prefixSharedAfter_29 0 rfl ?_
      refine j_get C d6_prefixSharedAfter_30 fl6_9 0 rfl rfl ?_
      refine j_iload C d6_prefixSharedAfter_33 4 rfl ?_
      refine j_iald C d6_prefixSharedAfter_35 1 rfl (fun x9 => ?_)
      refine j_iload C d6_prefixSharedAfter_36 2 rfl ?_
      refine j_callSI0 (As := [.int x9, .int p2]) C d6_prefixSharedAfter_37 ms6_47 (kX6_isOf _ _ tc x9 p2) ⟨rfl, rfl, Nat.le_of_ble_eq_true rfl, Nat.le_of_ble_eq_true rfl⟩ rfl [] rfl rfl rfl (Nat.le_of_ble_eq_true rfl) (fun x10 => ?_)
      refine j_join 64 (fun v11 => [(h_, .inr (6, [.ref h_codes, .int c_count])), (h_codes, .inl (tc.1, 24, .inl c_codes))]) (fun v11 => [(0, .ref h_), (1, .int p1), (2, .int p2), (3, .int v11), (4, .int v5)]) (fun v11 => []) (fun v11 => ?_) (fun k13 hk13 => ?_)
      · refine j_iincN C (fun x12 => [(4, .int x12), (0, .ref h_), (1, .int p1), (2, .int p2), (3, .int v11)]) d6_prefixSharedAfter_64 4 rfl (by decide +kernel) (by decide) (fun _ => rfl) (fun x12 => ?_)
        refine j_goto C d6_prefixSharedAfter_67 ?_
        exact j_sub [1, 2, 3, 4, 0] rfl (hrc6 _ _)
      · refine j_if_eq C d6_prefixSharedAfter_40 ?_ ?_
        · exact hk13 _
        · refine j_iload C d6_prefixSharedAfter_43 3 rfl ?_
          refine j_aload C d6_prefixSharedAfter_44 0 rfl ?_
          refine j_get C d6_prefixSharedAfter_45 fl6_9 0 rfl rfl ?_
          refine j_iload C d6_prefixSharedAfter_48 1 rfl ?_
          refine j_iald C d6_prefixSharedAfter_49 1 rfl (fun x14 => ?_)
          refine j_aload C d6_prefixSharedAfter_50 0 rfl ?_
          refine j_get C d6_prefixSharedAfter_51 fl6_9 0 rfl rfl ?_
          refine j_iload C d6_prefixSharedAfter_54 4 rfl ?_
          refine j_iald C d6_prefixSharedAfter_56 1 rfl (fun x15 => ?_)
          refine j_callSI0 (As := [.int x14, .int x15]) C d6_prefixSharedAfter_57 ms6_67 (kX6_commonPrefix _ _ tc N x14 x15) ⟨rfl, rfl, Nat.le_of_ble_eq_true rfl, Nat.le_of_ble_eq_true rfl⟩ rfl [] rfl rfl rfl (Nat.le_of_ble_eq_true rfl) (fun x16 => ?_)
          refine j_mmax C d6_prefixSharedAfter_60 kj6_64 rfl ⟨Nat.le_of_ble_eq_true rfl, Nat.le_of_ble_eq_true rfl⟩ (Nat.le_of_ble_eq_true rfl) ?_
          refine j_leti (fun x17 => ?_)
          refine j_istore C d6_prefixSharedAfter_63 (by decide) (lv' := [(3, .int x17), (0, .ref h_), (1, .int p1), (2, .int p2), (4, .int v5)]) rfl ?_
          exact j_sub [1, 2, 3, 0, 4] rfl (hk13 _)

set_option maxHeartbeats 4000000 in
set_option maxRecDepth 100000 in
theorem kX6_prefixSharedAfter (l : Launch) (D : va_G) (tc : jTC) (N : Nat) (h_ h_codes : Nat) (c_codes : (Nat → Int32)) (c_count : Int32) (p1 : Int32) (p2 : Int32) : ctI0 l D tc yX6_prefixSharedAfter (Cond.code yX6_prefixSharedAfter cX6_prefixSharedAfter 5 (some .int) :: jtb) ({ frames := 2, cells := 0, slots := 0, locals := 63 } : Room) [.ref h_, .int p1, .int p2] [(h_, .inr (6, [.ref h_codes, .int c_count])), (h_codes, .inl (tc.1, 24, .inl c_codes))] (fX6_prefixSharedAfter N c_codes c_count p1 p2) := by
  refine ctI0_of (lv0 := [(0, .ref h_), (1, .int p1), (2, .int p2)]) (by decide +kernel) (Nat.le_of_ble_eq_true rfl) rfl (fun X C => ?_)
  unfold fX6_prefixSharedAfter
  refine j_const C d6_prefixSharedAfter_0 ?_
  refine j_istore C d6_prefixSharedAfter_1 (by decide) (lv' := [(3, .int 0), (0, .ref h_), (1, .int p1), (2, .int p2)]) rfl ?_
  refine j_iload C d6_prefixSharedAfter_2 2 rfl ?_
  refine j_const C d6_prefixSharedAfter_3 ?_
  refine j_iadd C d6_prefixSharedAfter_4 ?_
  refine j_leti (fun x1 => ?_)
  refine j_istore C d6_prefixSharedAfter_5 (by decide) (lv' := [(4, .int x1), (3, .int 0), (0, .ref h_), (1, .int p1), (2, .int p2)]) rfl ?_
  refine j_join 70 (fun v2 => [(h_, .inr (6, [.ref h_codes, .int c_count])), (h_codes, .inl (tc.1, 24, .inl c_codes))]) (fun v2 => [(3, .int v2)]) (fun v2 => []) (fun v2 => ?_) (fun k3 hk3 => ?_)
  · refine j_iload C d6_prefixSharedAfter_70 0 rfl ?_
    exact j_iret0 C d6_prefixSharedAfter_71
  · exact j_sub [2, 3, 4, 1, 0] rfl (j_loop2 (fun v4 v5 => [(h_, .inr (6, [.ref h_codes, .int c_count])), (h_codes, .inl (tc.1, 24, .inl c_codes))]) (fun v4 v5 => [(0, .ref h_), (1, .int p1), (2, .int p2), (3, .int v4), (4, .int v5)]) (fun rc6 hrc6 v4 v5 => wX6_prefixSharedAfter_7 C N h_ h_codes p1 p2 c_codes c_count k3 hk3 rc6 hrc6 v4 v5) N _ _)

theorem d6_longestCommonPrefix_0 : jdk cX6_longestCommonPrefix 0 0 1 := Or.inl ⟨0, by decide +kernel⟩
theorem d6_longestCommonPrefix_1 : jds cX6_longestCommonPrefix 1 2 2 := Or.inl ⟨2, by decide +kernel⟩
theorem d6_longestCommonPrefix_2 : jdk cX6_longestCommonPrefix 2 0 3 := Or.inl ⟨0, by decide +kernel⟩
theorem d6_longestCommonPrefix_3 : jds cX6_longestCommonPrefix 3 3 4 := Or.inl ⟨3, by decide +kernel⟩
theorem d6_longestCommonPrefix_4 : jdi cX6_longestCommonPrefix 4 3 5 := Or.inl ⟨3, by decide +kernel⟩
theorem d6_longestCommonPrefix_5 : jda cX6_longestCommonPrefix 5 0 6 := Or.inl ⟨0, by decide +kernel⟩
theorem d6_longestCommonPrefix_6 : jd cX6_longestCommonPrefix 6 (.getfield 37) 3 9 := by decide +kernel
theorem d6_longestCommonPrefix_9 : jdb cX6_longestCommonPrefix 9 (.if_icmp .ge 20) 20 29 12 := by decide +kernel
theorem d6_longestCommonPrefix_12 : jdi cX6_longestCommonPrefix 12 2 13 := Or.inl ⟨2, by decide +kernel⟩
theorem d6_longestCommonPrefix_13 : jda cX6_longestCommonPrefix 13 0 14 := Or.inl ⟨0, by decide +kernel⟩
theorem d6_longestCommonPrefix_14 : jdi cX6_longestCommonPrefix 14 3 15 := Or.inl ⟨3, by decide +kernel⟩
theorem d6_longestCommonPrefix_15 : jdi cX6_longestCommonPrefix 15 1 16 := Or.inl ⟨1, by decide +kernel⟩
theorem d6_longestCommonPrefix_16 : jd cX6_longestCommonPrefix 16 (.invokevirtual 61) 3 19 := by decide +kernel
theorem d6_longestCommonPrefix_19 : jd cX6_longestCommonPrefix 19 (.invokestatic 64) 3 22 := by decide +kernel
theorem d6_longestCommonPrefix_22 : jds cX6_longestCommonPrefix 22 2 23 := Or.inl ⟨2, by decide +kernel⟩
theorem d6_longestCommonPrefix_23 : jd cX6_longestCommonPrefix 23 (.iinc 3 1) 3 26 := by decide +kernel
theorem d6_longestCommonPrefix_26 : jdb cX6_longestCommonPrefix 26 (.goto (-22)) (-22) 4 29 := by decide +kernel
theorem d6_longestCommonPrefix_29 : jdi cX6_longestCommonPrefix 29 2 30 := Or.inl ⟨2, by decide +kernel⟩
theorem d6_longestCommonPrefix_30 : decode cX6_longestCommonPrefix 30 = .ok (.ireturn, 1) := by decide +kernel
set_option maxHeartbeats 4000000 in
set_option maxRecDepth 100000 in
theorem wX6_longestCommonPrefix_4 {X : jC} {tc : jTC} (C : jx X cX6_longestCommonPrefix 4 RX6 (some .int) tc ({ frames := 3, cells := 0, slots := 0, locals := 87 } : Room)) (N : Nat) (h_ h_codes : Nat) (p1 : Int32) (c_codes : (Nat → Int32)) (c_count : Int32) (k2 : (Int32 → Option (Int32))) (hk2 : ∀ (v9 : Int32), jo X 4 (0, 0) (jQI0 X [(h_, .inr (6, [.ref h_codes, .int c_count])), (h_codes, .inl (tc.1, 24, .inl c_codes))]) (k2 v9) [(h_, .inr (6, [.ref h_codes, .int c_count])), (h_codes, .inl (tc.1, 24, .inl c_codes))] 29 [(2, .int v9)] []) (rc5 : Int32 → Int32 → Option (Int32)) (hrc5 : ∀ (v3 : Int32) (v4 : Int32), jo X 4 (0, 0) (jQI0 X [(h_, .inr (6, [.ref h_codes, .int c_count])), (h_codes, .inl (tc.1, 24, .inl c_codes))]) (rc5 v3 v4) [(h_, .inr (6, [.ref h_codes, .int c_count])), (h_codes, .inl (tc.1, 24, .inl c_codes))] 4 [(0, .ref h_), (1, .int p1), (2, .int v3), (3, .int v4)] []) (v3 : Int32) (v4 : Int32) : jo X 4 (0, 0) (jQI0 X [(h_, .inr (6, [.ref h_codes, .int c_count])), (h_codes, .inl (tc.1, 24, .inl c_codes))]) (bX6_longestCommonPrefix_4 N p1 c_codes c_count k2 rc5 v3 v4) [(h_, .inr (6, [.ref h_codes, .int c_count])), (h_codes, .inl (tc.1, 24, .inl c_codes))] 4 [(0, .ref h_), (1, .int p1), (2, .int v3), (3, .int v4)] [] := by
  unfold bX6_longestCommonPrefix_4
  refine j_iload C d6_longestCommonPrefix_4 3 rfl ?_
  refine j_aload C d6_longestCommonPrefix_5 0 rfl ?_
  refine j_get C d6_longestCommonPrefix_6 fl6_37 0 rfl rfl ?_
  refine j_icmp_ge C d6_longestCommonPrefix_9 ?_ ?_
  · exact j_sub [2] rfl (hk2 _)
  · refine j_iload C d6_longestCommonPrefix_12 2 rfl ?_
    refine j_aload C d6_longestCommonPrefix_13 0 rfl ?_
    refine j_iload C d6_longestCommonPrefix_14 3 rfl ?_
    refine j_iload C d6_longestCommonPrefix_15 1 rfl ?_
    refine j_callVI0 (As := [.int v4, .int p1]) C d6_longestCommonPrefix_16 mv6_61 (kX6_prefixSharedAfter _ _ tc N h_ h_codes c_codes c_count v4 p1) ⟨rfl, rfl, Nat.le_of_ble_eq_true rfl, Nat.le_of_ble_eq_true rfl⟩ rfl 0 rfl [0, 1] rfl rfl rfl (Nat.le_of_ble_eq_true rfl) (fun x6 => ?_)
    refine j_mmax C d6_longestCommonPrefix_19 kj6_64 rfl ⟨Nat.le_of_ble_eq_true rfl, Nat.le_of_ble_eq_true rfl⟩ (Nat.le_of_ble_eq_true rfl) ?_
    refine j_leti (fun x7 => ?_)
    refine j_istore C d6_longestCommonPrefix_22 (by decide) (lv' := [(2, .int x7), (0, .ref h_), (1, .int p1), (3, .int v4)]) rfl ?_
    refine j_iincN C (fun x8 => [(3, .int x8), (2, .int x7), (0, .ref h_), (1, .int p1)]) d6_longestCommonPrefix_23 3 rfl (by decide +kernel) (by decide) (fun _ => rfl) (fun x8 => ?_)
    refine j_goto C d6_longestCommonPrefix_26 ?_
    exact j_sub [2, 3, 1, 0] rfl (hrc5 _ _)

set_option maxHeartbeats 4000000 in
set_option maxRecDepth 100000 in
theorem kX6_longestCommonPrefix (l : Launch) (D : va_G) (tc : jTC) (N : Nat) (h_ h_codes : Nat) (c_codes : (Nat → Int32)) (c_count : Int32) (p1 : Int32) : ctI0 l D tc yX6_longestCommonPrefix (Cond.code yX6_longestCommonPrefix cX6_longestCommonPrefix 4 (some .int) :: jtb) ({ frames := 3, cells := 0, slots := 0, locals := 87 } : Room) [.ref h_, .int p1] [(h_, .inr (6, [.ref h_codes, .int c_count])), (h_codes, .inl (tc.1, 24, .inl c_codes))] (fX6_longestCommonPrefix N c_codes c_count p1) := by
  refine ctI0_of (lv0 := [(0, .ref h_), (1, .int p1)]) (by decide +kernel) (Nat.le_of_ble_eq_true rfl) rfl (fun X C => ?_)
  unfold fX6_longestCommonPrefix
  refine j_const C d6_longestCommonPrefix_0 ?_
  refine j_istore C d6_longestCommonPrefix_1 (by decide) (lv' := [(2, .int 0), (0, .ref h_), (1, .int p1)]) rfl ?_
  refine j_const C d6_longestCommonPrefix_2 ?_
  refine j_istore C d6_longestCommonPrefix_3 (by decide) (lv' := [(3, .int 0), (2, .int 0), (0, .ref h_), (1, .int p1)]) rfl ?_
  refine j_join 29 (fun v1 => [(h_, .inr (6, [.ref h_codes, .int c_count])), (h_codes, .inl (tc.1, 24, .inl c_codes))]) (fun v1 => [(2, .int v1)]) (fun v1 => []) (fun v1 => ?_) (fun k2 hk2 => ?_)
  · refine j_iload C d6_longestCommonPrefix_29 0 rfl ?_
    exact j_iret0 C d6_longestCommonPrefix_30
  · exact j_sub [2, 3, 1, 0] rfl (j_loop2 (fun v3 v4 => [(h_, .inr (6, [.ref h_codes, .int c_count])), (h_codes, .inl (tc.1, 24, .inl c_codes))]) (fun v3 v4 => [(0, .ref h_), (1, .int p1), (2, .int v3), (3, .int v4)]) (fun rc5 hrc5 v3 v4 => wX6_longestCommonPrefix_4 C N h_ h_codes p1 c_codes c_count k2 hk2 rc5 hrc5 v3 v4) N _ _)

theorem d6_leadWithPrefix_0 : jdk cX6_leadWithPrefix 0 0 1 := Or.inl ⟨0, by decide +kernel⟩
theorem d6_leadWithPrefix_1 : jds cX6_leadWithPrefix 1 3 2 := Or.inl ⟨3, by decide +kernel⟩
theorem d6_leadWithPrefix_2 : jdi cX6_leadWithPrefix 2 3 3 := Or.inl ⟨3, by decide +kernel⟩
theorem d6_leadWithPrefix_3 : jda cX6_leadWithPrefix 3 0 4 := Or.inl ⟨0, by decide +kernel⟩
theorem d6_leadWithPrefix_4 : jd cX6_leadWithPrefix 4 (.getfield 37) 3 7 := by decide +kernel
theorem d6_leadWithPrefix_7 : jdb cX6_leadWithPrefix 7 (.if_icmp .ge 26) 26 33 10 := by decide +kernel
theorem d6_leadWithPrefix_10 : jda cX6_leadWithPrefix 10 0 11 := Or.inl ⟨0, by decide +kernel⟩
theorem d6_leadWithPrefix_11 : jdi cX6_leadWithPrefix 11 3 12 := Or.inl ⟨3, by decide +kernel⟩
theorem d6_leadWithPrefix_12 : jdi cX6_leadWithPrefix 12 1 13 := Or.inl ⟨1, by decide +kernel⟩
theorem d6_leadWithPrefix_13 : jd cX6_leadWithPrefix 13 (.invokevirtual 61) 3 16 := by decide +kernel
theorem d6_leadWithPrefix_16 : jdi cX6_leadWithPrefix 16 2 17 := Or.inl ⟨2, by decide +kernel⟩
theorem d6_leadWithPrefix_17 : jdb cX6_leadWithPrefix 17 (.if_icmp .ne 10) 10 27 20 := by decide +kernel
theorem d6_leadWithPrefix_20 : jda cX6_leadWithPrefix 20 0 21 := Or.inl ⟨0, by decide +kernel⟩
theorem d6_leadWithPrefix_21 : jd cX6_leadWithPrefix 21 (.getfield 9) 3 24 := by decide +kernel
theorem d6_leadWithPrefix_24 : jdi cX6_leadWithPrefix 24 3 25 := Or.inl ⟨3, by decide +kernel⟩
theorem d6_leadWithPrefix_25 : jd cX6_leadWithPrefix 25 (.iaload) 1 26 := by decide +kernel
theorem d6_leadWithPrefix_26 : decode cX6_leadWithPrefix 26 = .ok (.ireturn, 1) := by decide +kernel
theorem d6_leadWithPrefix_27 : jd cX6_leadWithPrefix 27 (.iinc 3 1) 3 30 := by decide +kernel
theorem d6_leadWithPrefix_30 : jdb cX6_leadWithPrefix 30 (.goto (-28)) (-28) 2 33 := by decide +kernel
theorem d6_leadWithPrefix_33 : jdk cX6_leadWithPrefix 33 (-1) 34 := Or.inl ⟨(-1), by decide +kernel⟩
theorem d6_leadWithPrefix_34 : decode cX6_leadWithPrefix 34 = .ok (.ireturn, 1) := by decide +kernel
set_option maxHeartbeats 4000000 in
set_option maxRecDepth 100000 in
theorem wX6_leadWithPrefix_2 {X : jC} {tc : jTC} (C : jx X cX6_leadWithPrefix 4 RX6 (some .int) tc ({ frames := 3, cells := 0, slots := 0, locals := 87 } : Room)) (N : Nat) (h_ h_codes : Nat) (p1 : Int32) (p2 : Int32) (c_codes : (Nat → Int32)) (c_count : Int32) (k2 : (Unit → Option (Int32))) (hk2 : ∀ (v8 : Unit), jo X 4 (0, 0) (jQI0 X [(h_, .inr (6, [.ref h_codes, .int c_count])), (h_codes, .inl (tc.1, 24, .inl c_codes))]) (k2 v8) [(h_, .inr (6, [.ref h_codes, .int c_count])), (h_codes, .inl (tc.1, 24, .inl c_codes))] 33 [] []) (rc4 : Int32 → Option (Int32)) (hrc4 : ∀ (v3 : Int32), jo X 4 (0, 0) (jQI0 X [(h_, .inr (6, [.ref h_codes, .int c_count])), (h_codes, .inl (tc.1, 24, .inl c_codes))]) (rc4 v3) [(h_, .inr (6, [.ref h_codes, .int c_count])), (h_codes, .inl (tc.1, 24, .inl c_codes))] 2 [(0, .ref h_), (1, .int p1), (2, .int p2), (3, .int v3)] []) (v3 : Int32) : jo X 4 (0, 0) (jQI0 X [(h_, .inr (6, [.ref h_codes, .int c_count])), (h_codes, .inl (tc.1, 24, .inl c_codes))]) (bX6_leadWithPrefix_2 N p1 p2 c_codes c_count k2 rc4 v3) [(h_, .inr (6, [.ref h_codes, .int c_count])), (h_codes, .inl (tc.1, 24, .inl c_codes))] 2 [(0, .ref h_), (1, .int p1), (2, .int p2), (3, .int v3)] [] := by
  unfold bX6_leadWithPrefix_2
  refine j_iload C d6_leadWithPrefix_2 3 rfl ?_
  refine j_aload C d6_leadWithPrefix_3 0 rfl ?_
  refine j_get C d6_leadWithPrefix_4 fl6_37 0 rfl rfl ?_
  refine j_icmp_ge C d6_leadWithPrefix_7 ?_ ?_
  · exact j_sub [] rfl (hk2 _)
  · refine j_aload C d6_leadWithPrefix_10 0 rfl ?_
    refine j_iload C d6_leadWithPrefix_11 3 rfl ?_
    refine j_iload C d6_leadWithPrefix_12 1 rfl ?_
    refine j_callVI0 (As := [.int v3, .int p1]) C d6_leadWithPrefix_13 mv6_61 (kX6_prefixSharedAfter _ _ tc N h_ h_codes c_codes c_count v3 p1) ⟨rfl, rfl, Nat.le_of_ble_eq_true rfl, Nat.le_of_ble_eq_true rfl⟩ rfl 0 rfl [0, 1] rfl rfl rfl (Nat.le_of_ble_eq_true rfl) (fun x5 => ?_)
    refine j_iload C d6_leadWithPrefix_16 2 rfl ?_
    refine j_icmp_ne C d6_leadWithPrefix_17 ?_ ?_
    · refine j_iincN C (fun x6 => [(3, .int x6), (0, .ref h_), (1, .int p1), (2, .int p2)]) d6_leadWithPrefix_27 3 rfl (by decide +kernel) (by decide) (fun _ => rfl) (fun x6 => ?_)
      refine j_goto C d6_leadWithPrefix_30 ?_
      exact j_sub [1, 2, 3, 0] rfl (hrc4 _)
    · refine j_aload C d6_leadWithPrefix_20 0 rfl ?_
      refine j_get C d6_leadWithPrefix_21 fl6_9 0 rfl rfl ?_
      refine j_iload C d6_leadWithPrefix_24 3 rfl ?_
      refine j_iald C d6_leadWithPrefix_25 1 rfl (fun x7 => ?_)
      exact j_iret0 C d6_leadWithPrefix_26

set_option maxHeartbeats 4000000 in
set_option maxRecDepth 100000 in
theorem kX6_leadWithPrefix (l : Launch) (D : va_G) (tc : jTC) (N : Nat) (h_ h_codes : Nat) (c_codes : (Nat → Int32)) (c_count : Int32) (p1 : Int32) (p2 : Int32) : ctI0 l D tc yX6_leadWithPrefix (Cond.code yX6_leadWithPrefix cX6_leadWithPrefix 4 (some .int) :: jtb) ({ frames := 3, cells := 0, slots := 0, locals := 87 } : Room) [.ref h_, .int p1, .int p2] [(h_, .inr (6, [.ref h_codes, .int c_count])), (h_codes, .inl (tc.1, 24, .inl c_codes))] (fX6_leadWithPrefix N c_codes c_count p1 p2) := by
  refine ctI0_of (lv0 := [(0, .ref h_), (1, .int p1), (2, .int p2)]) (by decide +kernel) (Nat.le_of_ble_eq_true rfl) rfl (fun X C => ?_)
  unfold fX6_leadWithPrefix
  refine j_const C d6_leadWithPrefix_0 ?_
  refine j_istore C d6_leadWithPrefix_1 (by decide) (lv' := [(3, .int 0), (0, .ref h_), (1, .int p1), (2, .int p2)]) rfl ?_
  refine j_join 33 (fun v1 => [(h_, .inr (6, [.ref h_codes, .int c_count])), (h_codes, .inl (tc.1, 24, .inl c_codes))]) (fun v1 => []) (fun v1 => []) (fun v1 => ?_) (fun k2 hk2 => ?_)
  · refine j_const C d6_leadWithPrefix_33 ?_
    exact j_iret0 C d6_leadWithPrefix_34
  · exact j_sub [1, 2, 3, 0] rfl (j_loop (fun v3 => [(h_, .inr (6, [.ref h_codes, .int c_count])), (h_codes, .inl (tc.1, 24, .inl c_codes))]) (fun v3 => [(0, .ref h_), (1, .int p1), (2, .int p2), (3, .int v3)]) (fun rc4 hrc4 v3 => wX6_leadWithPrefix_2 C N h_ h_codes p1 p2 c_codes c_count k2 hk2 rc4 hrc4 v3) N _)

