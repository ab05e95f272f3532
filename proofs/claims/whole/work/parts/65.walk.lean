theorem d5_findWords_0 : jda cX5_findWords 0 0 1 := Or.inl ⟨0, by decide +kernel⟩
theorem d5_findWords_1 : jdi cX5_findWords 1 1 2 := Or.inl ⟨1, by decide +kernel⟩
theorem d5_findWords_2 : jdi cX5_findWords 2 2 3 := Or.inl ⟨2, by decide +kernel⟩
theorem d5_findWords_3 : jd cX5_findWords 3 (.invokevirtual 63) 3 6 := by decide +kernel
theorem d5_findWords_6 : jdk cX5_findWords 6 0 7 := Or.inl ⟨0, by decide +kernel⟩
theorem d5_findWords_7 : jds cX5_findWords 7 3 8 := Or.inl ⟨3, by decide +kernel⟩
theorem d5_findWords_8 : jdi cX5_findWords 8 3 9 := Or.inl ⟨3, by decide +kernel⟩
theorem d5_findWords_9 : jdk cX5_findWords 9 8 11 := Or.inr (Or.inl ⟨8, by decide +kernel⟩)
theorem d5_findWords_11 : jdb cX5_findWords 11 (.if_icmp .ge 25) 25 36 14 := by decide +kernel
theorem d5_findWords_14 : jda cX5_findWords 14 0 15 := Or.inl ⟨0, by decide +kernel⟩
theorem d5_findWords_15 : jd cX5_findWords 15 (.getfield 20) 3 18 := by decide +kernel
theorem d5_findWords_18 : jdi cX5_findWords 18 1 19 := Or.inl ⟨1, by decide +kernel⟩
theorem d5_findWords_19 : jdi cX5_findWords 19 2 20 := Or.inl ⟨2, by decide +kernel⟩
theorem d5_findWords_20 : jdk cX5_findWords 20 10 22 := Or.inr (Or.inl ⟨10, by decide +kernel⟩)
theorem d5_findWords_22 : jdi cX5_findWords 22 3 23 := Or.inl ⟨3, by decide +kernel⟩
theorem d5_findWords_23 : jd cX5_findWords 23 (.iadd) 1 24 := by decide +kernel
theorem d5_findWords_24 : jd cX5_findWords 24 (.invokestatic 48) 3 27 := by decide +kernel
theorem d5_findWords_27 : jd cX5_findWords 27 (.invokevirtual 66) 3 30 := by decide +kernel
theorem d5_findWords_30 : jd cX5_findWords 30 (.iinc 3 1) 3 33 := by decide +kernel
theorem d5_findWords_33 : jdb cX5_findWords 33 (.goto (-25)) (-25) 8 36 := by decide +kernel
theorem d5_findWords_36 : jdk cX5_findWords 36 1 37 := Or.inl ⟨1, by decide +kernel⟩
theorem d5_findWords_37 : jds cX5_findWords 37 3 38 := Or.inl ⟨3, by decide +kernel⟩
theorem d5_findWords_38 : jdk cX5_findWords 38 0 39 := Or.inl ⟨0, by decide +kernel⟩
theorem d5_findWords_39 : jds cX5_findWords 39 4 41 := Or.inr (by decide +kernel)
theorem d5_findWords_41 : jdi cX5_findWords 41 4 43 := Or.inr (by decide +kernel)
theorem d5_findWords_43 : jdk cX5_findWords 43 1000 46 := Or.inr (Or.inr ⟨1000, by decide +kernel⟩)
theorem d5_findWords_46 : jdb cX5_findWords 46 (.if_icmp .ge 65) 65 111 49 := by decide +kernel
theorem d5_findWords_49 : jdi cX5_findWords 49 3 50 := Or.inl ⟨3, by decide +kernel⟩
theorem d5_findWords_50 : jdb cX5_findWords 50 (.ifCond .eq 61) 61 111 53 := by decide +kernel
theorem d5_findWords_53 : jdk cX5_findWords 53 0 54 := Or.inl ⟨0, by decide +kernel⟩
theorem d5_findWords_54 : jds cX5_findWords 54 3 55 := Or.inl ⟨3, by decide +kernel⟩
theorem d5_findWords_55 : jdk cX5_findWords 55 0 56 := Or.inl ⟨0, by decide +kernel⟩
theorem d5_findWords_56 : jds cX5_findWords 56 5 58 := Or.inr (by decide +kernel)
theorem d5_findWords_58 : jdi cX5_findWords 58 5 60 := Or.inr (by decide +kernel)
theorem d5_findWords_60 : jda cX5_findWords 60 0 61 := Or.inl ⟨0, by decide +kernel⟩
theorem d5_findWords_61 : jd cX5_findWords 61 (.getfield 24) 3 64 := by decide +kernel
theorem d5_findWords_64 : jd cX5_findWords 64 (.getfield 69) 3 67 := by decide +kernel
theorem d5_findWords_67 : jdb cX5_findWords 67 (.if_icmp .ge 38) 38 105 70 := by decide +kernel
theorem d5_findWords_70 : jda cX5_findWords 70 0 71 := Or.inl ⟨0, by decide +kernel⟩
theorem d5_findWords_71 : jda cX5_findWords 71 0 72 := Or.inl ⟨0, by decide +kernel⟩
theorem d5_findWords_72 : jd cX5_findWords 72 (.getfield 24) 3 75 := by decide +kernel
theorem d5_findWords_75 : jd cX5_findWords 75 (.getfield 74) 3 78 := by decide +kernel
theorem d5_findWords_78 : jdi cX5_findWords 78 5 80 := Or.inr (by decide +kernel)
theorem d5_findWords_80 : jd cX5_findWords 80 (.iaload) 1 81 := by decide +kernel
theorem d5_findWords_81 : jdi cX5_findWords 81 1 82 := Or.inl ⟨1, by decide +kernel⟩
theorem d5_findWords_82 : jdi cX5_findWords 82 2 83 := Or.inl ⟨2, by decide +kernel⟩
theorem d5_findWords_83 : jd cX5_findWords 83 (.invokevirtual 77) 3 86 := by decide +kernel
theorem d5_findWords_86 : jdb cX5_findWords 86 (.ifCond .ne 7) 7 93 89 := by decide +kernel
theorem d5_findWords_89 : jdi cX5_findWords 89 3 90 := Or.inl ⟨3, by decide +kernel⟩
theorem d5_findWords_90 : jdb cX5_findWords 90 (.ifCond .eq 7) 7 97 93 := by decide +kernel
theorem d5_findWords_93 : jdk cX5_findWords 93 1 94 := Or.inl ⟨1, by decide +kernel⟩
theorem d5_findWords_94 : jdb cX5_findWords 94 (.goto 4) 4 98 97 := by decide +kernel
theorem d5_findWords_97 : jdk cX5_findWords 97 0 98 := Or.inl ⟨0, by decide +kernel⟩
theorem d5_findWords_98 : jds cX5_findWords 98 3 99 := Or.inl ⟨3, by decide +kernel⟩
theorem d5_findWords_99 : jd cX5_findWords 99 (.iinc 5 1) 3 102 := by decide +kernel
theorem d5_findWords_102 : jdb cX5_findWords 102 (.goto (-44)) (-44) 58 105 := by decide +kernel
theorem d5_findWords_105 : jd cX5_findWords 105 (.iinc 4 1) 3 108 := by decide +kernel
theorem d5_findWords_108 : jdb cX5_findWords 108 (.goto (-67)) (-67) 41 111 := by decide +kernel
theorem d5_findWords_111 : decode cX5_findWords 111 = .ok (.return_, 1) := by decide +kernel
set_option maxHeartbeats 4000000 in
set_option maxRecDepth 100000 in
theorem wX5_findWords_58 {X : jC} {tc : jTC} (C : jx X cX5_findWords 6 RX5 none tc ({ frames := 4, cells := 0, slots := 0, locals := 106 } : Room)) (N : Nat) (h_ h_rules h_rules_codes h_input h_input_terminals h_weights h_words h_words_costs h_words_highs h_words_lows : Nat) (p1 : Int32) (p2 : Int32) (c_rules_codes : (Nat → Int32)) (c_rules_count : Int32) (c_input_terminals : (Nat → Int32)) (c_input_length : Int32) (c_weights : (Nat → Int32)) (v12 : Int32) (k22 : (Int32 → (Nat → Int32) → (Nat → Int64) → (Nat → Int64) → Option ((Nat → Int32) × (Nat → Int64) × (Nat → Int64)))) (hk22 : ∀ (v39 : Int32) (v40 : (Nat → Int32)) (v41 : (Nat → Int64)) (v42 : (Nat → Int64)), jo X 6 (0, 0) (jQV X (fun (u : (Nat → Int32) × (Nat → Int64) × (Nat → Int64)) => [(h_, .inr (5, [.ref h_rules, .ref h_input, .ref h_weights, .ref h_words])), (h_rules, .inr (6, [.ref h_rules_codes, .int c_rules_count])), (h_rules_codes, .inl (tc.1, 24, .inl c_rules_codes)), (h_input, .inr (3, [.ref h_input_terminals, .int c_input_length])), (h_input_terminals, .inl (tc.1, 40, .inl c_input_terminals)), (h_weights, .inl (tc.1, 8, .inl c_weights)), (h_words, .inr (10, [.ref h_words_costs, .ref h_words_highs, .ref h_words_lows])), (h_words_costs, .inl (tc.1, 1469, .inl u.1)), (h_words_highs, .inl (tc.2.1, 1469, .inr (.inl u.2.1))), (h_words_lows, .inl (tc.2.1, 1469, .inr (.inl u.2.2)))])) (k22 v39 v40 v41 v42) [(h_, .inr (5, [.ref h_rules, .ref h_input, .ref h_weights, .ref h_words])), (h_rules, .inr (6, [.ref h_rules_codes, .int c_rules_count])), (h_rules_codes, .inl (tc.1, 24, .inl c_rules_codes)), (h_input, .inr (3, [.ref h_input_terminals, .int c_input_length])), (h_input_terminals, .inl (tc.1, 40, .inl c_input_terminals)), (h_weights, .inl (tc.1, 8, .inl c_weights)), (h_words, .inr (10, [.ref h_words_costs, .ref h_words_highs, .ref h_words_lows])), (h_words_costs, .inl (tc.1, 1469, .inl v40)), (h_words_highs, .inl (tc.2.1, 1469, .inr (.inl v41))), (h_words_lows, .inl (tc.2.1, 1469, .inr (.inl v42)))] 105 [(0, .ref h_), (1, .int p1), (2, .int p2), (3, .int v39), (4, .int v12)] []) (rc28 : Int32 → Int32 → (Nat → Int32) → (Nat → Int64) → (Nat → Int64) → Option ((Nat → Int32) × (Nat → Int64) × (Nat → Int64))) (hrc28 : ∀ (v23 : Int32) (v24 : Int32) (v25 : (Nat → Int32)) (v26 : (Nat → Int64)) (v27 : (Nat → Int64)), jo X 6 (0, 0) (jQV X (fun (u : (Nat → Int32) × (Nat → Int64) × (Nat → Int64)) => [(h_, .inr (5, [.ref h_rules, .ref h_input, .ref h_weights, .ref h_words])), (h_rules, .inr (6, [.ref h_rules_codes, .int c_rules_count])), (h_rules_codes, .inl (tc.1, 24, .inl c_rules_codes)), (h_input, .inr (3, [.ref h_input_terminals, .int c_input_length])), (h_input_terminals, .inl (tc.1, 40, .inl c_input_terminals)), (h_weights, .inl (tc.1, 8, .inl c_weights)), (h_words, .inr (10, [.ref h_words_costs, .ref h_words_highs, .ref h_words_lows])), (h_words_costs, .inl (tc.1, 1469, .inl u.1)), (h_words_highs, .inl (tc.2.1, 1469, .inr (.inl u.2.1))), (h_words_lows, .inl (tc.2.1, 1469, .inr (.inl u.2.2)))])) (rc28 v23 v24 v25 v26 v27) [(h_, .inr (5, [.ref h_rules, .ref h_input, .ref h_weights, .ref h_words])), (h_rules, .inr (6, [.ref h_rules_codes, .int c_rules_count])), (h_rules_codes, .inl (tc.1, 24, .inl c_rules_codes)), (h_input, .inr (3, [.ref h_input_terminals, .int c_input_length])), (h_input_terminals, .inl (tc.1, 40, .inl c_input_terminals)), (h_weights, .inl (tc.1, 8, .inl c_weights)), (h_words, .inr (10, [.ref h_words_costs, .ref h_words_highs, .ref h_words_lows])), (h_words_costs, .inl (tc.1, 1469, .inl v25)), (h_words_highs, .inl (tc.2.1, 1469, .inr (.inl v26))), (h_words_lows, .inl (tc.2.1, 1469, .inr (.inl v27)))] 58 [(0, .ref h_), (1, .int p1), (2, .int p2), (3, .int v23), (4, .int v12), (5, .int v24)] []) (v23 : Int32) (v24 : Int32) (v25 : (Nat → Int32)) (v26 : (Nat → Int64)) (v27 : (Nat → Int64)) : jo X 6 (0, 0) (jQV X (fun (u : (Nat → Int32) × (Nat → Int64) × (Nat → Int64)) => [(h_, .inr (5, [.ref h_rules, .ref h_input, .ref h_weights, .ref h_words])), (h_rules, .inr (6, [.ref h_rules_codes, .int c_rules_count])), (h_rules_codes, .inl (tc.1, 24, .inl c_rules_codes)), (h_input, .inr (3, [.ref h_input_terminals, .int c_input_length])), (h_input_terminals, .inl (tc.1, 40, .inl c_input_terminals)), (h_weights, .inl (tc.1, 8, .inl c_weights)), (h_words, .inr (10, [.ref h_words_costs, .ref h_words_highs, .ref h_words_lows])), (h_words_costs, .inl (tc.1, 1469, .inl u.1)), (h_words_highs, .inl (tc.2.1, 1469, .inr (.inl u.2.1))), (h_words_lows, .inl (tc.2.1, 1469, .inr (.inl u.2.2)))])) (bX5_findWords_58 N p1 p2 c_rules_codes c_rules_count k22 rc28 v23 v24 v25 v26 v27) [(h_, .inr (5, [.ref h_rules, .ref h_input, .ref h_weights, .ref h_words])), (h_rules, .inr (6, [.ref h_rules_codes, .int c_rules_count])), (h_rules_codes, .inl (tc.1, 24, .inl c_rules_codes)), (h_input, .inr (3, [.ref h_input_terminals, .int c_input_length])), (h_input_terminals, .inl (tc.1, 40, .inl c_input_terminals)), (h_weights, .inl (tc.1, 8, .inl c_weights)), (h_words, .inr (10, [.ref h_words_costs, .ref h_words_highs, .ref h_words_lows])), (h_words_costs, .inl (tc.1, 1469, .inl v25)), (h_words_highs, .inl (tc.2.1, 1469, .inr (.inl v26))), (h_words_lows, .inl (tc.2.1, 1469, .inr (.inl v27)))] 58 [(0, .ref h_), (1, .int p1), (2, .int p2), (3, .int v23), (4, .int v12), (5, .int v24)] [] := by
  unfold bX5_findWords_58
  refine j_iload C d5_findWords_58 5 rfl ?_
  refine j_aload C d5_findWords_60 0 rfl ?_
  refine j_get C d5_findWords_61 fl5_24 0 rfl rfl ?_
  refine j_get C d5_findWords_64 fl5_69 1 rfl rfl ?_
  refine j_icmp_ge C d5_findWords_67 ?_ ?_
  · exact j_sub [0, 1, 2, 3, 4] rfl (hk22 _ _ _ _)
  · refine j_aload C d5_findWords_70 0 rfl ?_
    refine j_aload C d5_findWords_71 0 rfl ?_
    refine j_get C d5_findWords_72 fl5_24 0 rfl rfl ?_
    refine j_get C d5_findWords_75 fl5_74 1 rfl rfl ?_
    refine j_iload C d5_findWords_78 5 rfl ?_
    refine j_iald C d5_findWords_80 2 rfl (fun x29 => ?_)
    refine j_iload C d5_findWords_81 1 rfl ?_
    refine j_iload C d5_findWords_82 2 rfl ?_
    refine j_callVI4 (As := [.int x29, .int p1, .int p2]) C d5_findWords_83 mv5_77 (kX5_lowerBy _ _ tc N h_ h_words h_words_costs h_words_highs h_words_lows (.ref h_rules) (.ref h_input) (.ref h_weights) v25 v26 v27 x29 p1 p2) ⟨rfl, rfl, Nat.le_of_ble_eq_true rfl, Nat.le_of_ble_eq_true rfl⟩ rfl 0 rfl [0, 6, 7, 8, 9] rfl rfl rfl (Nat.le_of_ble_eq_true rfl) (fun o30 o31 o32 => [(h_, .inr (5, [.ref h_rules, .ref h_input, .ref h_weights, .ref h_words])), (h_rules, .inr (6, [.ref h_rules_codes, .int c_rules_count])), (h_rules_codes, .inl (tc.1, 24, .inl c_rules_codes)), (h_input, .inr (3, [.ref h_input_terminals, .int c_input_length])), (h_input_terminals, .inl (tc.1, 40, .inl c_input_terminals)), (h_weights, .inl (tc.1, 8, .inl c_weights)), (h_words, .inr (10, [.ref h_words_costs, .ref h_words_highs, .ref h_words_lows])), (h_words_costs, .inl (tc.1, 1469, .inl o30)), (h_words_highs, .inl (tc.2.1, 1469, .inr (.inl o31))), (h_words_lows, .inl (tc.2.1, 1469, .inr (.inl o32)))]) [(true, 0), (false, 1), (false, 2), (false, 3), (false, 4), (false, 5), (true, 1), (true, 2), (true, 3), (true, 4)] (fun _ => rfl) (by decide +kernel) (fun o33 o30 o31 o32 => ?_)
    refine j_join 98 (fun v34 => [(h_, .inr (5, [.ref h_rules, .ref h_input, .ref h_weights, .ref h_words])), (h_rules, .inr (6, [.ref h_rules_codes, .int c_rules_count])), (h_rules_codes, .inl (tc.1, 24, .inl c_rules_codes)), (h_input, .inr (3, [.ref h_input_terminals, .int c_input_length])), (h_input_terminals, .inl (tc.1, 40, .inl c_input_terminals)), (h_weights, .inl (tc.1, 8, .inl c_weights)), (h_words, .inr (10, [.ref h_words_costs, .ref h_words_highs, .ref h_words_lows])), (h_words_costs, .inl (tc.1, 1469, .inl o30)), (h_words_highs, .inl (tc.2.1, 1469, .inr (.inl o31))), (h_words_lows, .inl (tc.2.1, 1469, .inr (.inl o32)))]) (fun v34 => [(0, .ref h_), (1, .int p1), (2, .int p2), (4, .int v12), (5, .int v24)]) (fun v34 => [.int v34]) (fun v34 => ?_) (fun k36 hk36 => ?_)
    · refine j_istore C d5_findWords_98 (by decide) (lv' := [(3, .int v34), (0, .ref h_), (1, .int p1), (2, .int p2), (4, .int v12), (5, .int v24)]) rfl ?_
      refine j_iincN C (fun x35 => [(5, .int x35), (3, .int v34), (0, .ref h_), (1, .int p1), (2, .int p2), (4, .int v12)]) d5_findWords_99 5 rfl (by decide +kernel) (by decide) (fun _ => rfl) (fun x35 => ?_)
      refine j_goto C d5_findWords_102 ?_
      exact j_sub [2, 3, 4, 1, 5, 0] rfl (hrc28 _ _ _ _ _)
    · refine j_join 93 (fun v37 => [(h_, .inr (5, [.ref h_rules, .ref h_input, .ref h_weights, .ref h_words])), (h_rules, .inr (6, [.ref h_rules_codes, .int c_rules_count])), (h_rules_codes, .inl (tc.1, 24, .inl c_rules_codes)), (h_input, .inr (3, [.ref h_input_terminals, .int c_input_length])), (h_input_terminals, .inl (tc.1, 40, .inl c_input_terminals)), (h_weights, .inl (tc.1, 8, .inl c_weights)), (h_words, .inr (10, [.ref h_words_costs, .ref h_words_highs, .ref h_words_lows])), (h_words_costs, .inl (tc.1, 1469, .inl o30)), (h_words_highs, .inl (tc.2.1, 1469, .inr (.inl o31))), (h_words_lows, .inl (tc.2.1, 1469, .inr (.inl o32)))]) (fun v37 => [(0, .ref h_), (1, .int p1), (2, .int p2), (4, .int v12), (5, .int v24)]) (fun v37 => []) (fun v37 => ?_) (fun k38 hk38 => ?_)
      · refine j_const C d5_findWords_93 ?_
        refine j_goto C d5_findWords_94 ?_
        exact hk36 _
      · refine j_if_ne C d5_findWords_86 ?_ ?_
        · exact j_sub [0, 1, 2, 4, 5] rfl (hk38 _)
        · refine j_iload C d5_findWords_89 3 rfl ?_
          refine j_if_eq C d5_findWords_90 ?_ ?_
          · refine j_const C d5_findWords_97 ?_
            exact j_sub [0, 1, 2, 4, 5] rfl (hk36 _)
          · exact j_sub [0, 1, 2, 4, 5] rfl (hk38 _)

set_option maxHeartbeats 4000000 in
set_option maxRecDepth 100000 in
theorem wX5_findWords_41 {X : jC} {tc : jTC} (C : jx X cX5_findWords 6 RX5 none tc ({ frames := 4, cells := 0, slots := 0, locals := 106 } : Room)) (N : Nat) (h_ h_rules h_rules_codes h_input h_input_terminals h_weights h_words h_words_costs h_words_highs h_words_lows : Nat) (p1 : Int32) (p2 : Int32) (c_rules_codes : (Nat → Int32)) (c_rules_count : Int32) (c_input_terminals : (Nat → Int32)) (c_input_length : Int32) (c_weights : (Nat → Int32)) (k10 : ((Nat → Int32) → (Nat → Int64) → (Nat → Int64) → Option ((Nat → Int32) × (Nat → Int64) × (Nat → Int64)))) (hk10 : ∀ (v43 : (Nat → Int32)) (v44 : (Nat → Int64)) (v45 : (Nat → Int64)), jo X 6 (0, 0) (jQV X (fun (u : (Nat → Int32) × (Nat → Int64) × (Nat → Int64)) => [(h_, .inr (5, [.ref h_rules, .ref h_input, .ref h_weights, .ref h_words])), (h_rules, .inr (6, [.ref h_rules_codes, .int c_rules_count])), (h_rules_codes, .inl (tc.1, 24, .inl c_rules_codes)), (h_input, .inr (3, [.ref h_input_terminals, .int c_input_length])), (h_input_terminals, .inl (tc.1, 40, .inl c_input_terminals)), (h_weights, .inl (tc.1, 8, .inl c_weights)), (h_words, .inr (10, [.ref h_words_costs, .ref h_words_highs, .ref h_words_lows])), (h_words_costs, .inl (tc.1, 1469, .inl u.1)), (h_words_highs, .inl (tc.2.1, 1469, .inr (.inl u.2.1))), (h_words_lows, .inl (tc.2.1, 1469, .inr (.inl u.2.2)))])) (k10 v43 v44 v45) [(h_, .inr (5, [.ref h_rules, .ref h_input, .ref h_weights, .ref h_words])), (h_rules, .inr (6, [.ref h_rules_codes, .int c_rules_count])), (h_rules_codes, .inl (tc.1, 24, .inl c_rules_codes)), (h_input, .inr (3, [.ref h_input_terminals, .int c_input_length])), (h_input_terminals, .inl (tc.1, 40, .inl c_input_terminals)), (h_weights, .inl (tc.1, 8, .inl c_weights)), (h_words, .inr (10, [.ref h_words_costs, .ref h_words_highs, .ref h_words_lows])), (h_words_costs, .inl (tc.1, 1469, .inl v43)), (h_words_highs, .inl (tc.2.1, 1469, .inr (.inl v44))), (h_words_lows, .inl (tc.2.1, 1469, .inr (.inl v45)))] 111 [] []) (rc16 : Int32 → Int32 → (Nat → Int32) → (Nat → Int64) → (Nat → Int64) → Option ((Nat → Int32) × (Nat → Int64) × (Nat → Int64))) (hrc16 : ∀ (v11 : Int32) (v12 : Int32) (v13 : (Nat → Int32)) (v14 : (Nat → Int64)) (v15 : (Nat → Int64)), jo X 6 (0, 0) (jQV X (fun (u : (Nat → Int32) × (Nat → Int64) × (Nat → Int64)) => [(h_, .inr (5, [.ref h_rules, .ref h_input, .ref h_weights, .ref h_words])), (h_rules, .inr (6, [.ref h_rules_codes, .int c_rules_count])), (h_rules_codes, .inl (tc.1, 24, .inl c_rules_codes)), (h_input, .inr (3, [.ref h_input_terminals, .int c_input_length])), (h_input_terminals, .inl (tc.1, 40, .inl c_input_terminals)), (h_weights, .inl (tc.1, 8, .inl c_weights)), (h_words, .inr (10, [.ref h_words_costs, .ref h_words_highs, .ref h_words_lows])), (h_words_costs, .inl (tc.1, 1469, .inl u.1)), (h_words_highs, .inl (tc.2.1, 1469, .inr (.inl u.2.1))), (h_words_lows, .inl (tc.2.1, 1469, .inr (.inl u.2.2)))])) (rc16 v11 v12 v13 v14 v15) [(h_, .inr (5, [.ref h_rules, .ref h_input, .ref h_weights, .ref h_words])), (h_rules, .inr (6, [.ref h_rules_codes, .int c_rules_count])), (h_rules_codes, .inl (tc.1, 24, .inl c_rules_codes)), (h_input, .inr (3, [.ref h_input_terminals, .int c_input_length])), (h_input_terminals, .inl (tc.1, 40, .inl c_input_terminals)), (h_weights, .inl (tc.1, 8, .inl c_weights)), (h_words, .inr (10, [.ref h_words_costs, .ref h_words_highs, .ref h_words_lows])), (h_words_costs, .inl (tc.1, 1469, .inl v13)), (h_words_highs, .inl (tc.2.1, 1469, .inr (.inl v14))), (h_words_lows, .inl (tc.2.1, 1469, .inr (.inl v15)))] 41 [(0, .ref h_), (1, .int p1), (2, .int p2), (3, .int v11), (4, .int v12)] []) (v11 : Int32) (v12 : Int32) (v13 : (Nat → Int32)) (v14 : (Nat → Int64)) (v15 : (Nat → Int64)) : jo X 6 (0, 0) (jQV X (fun (u : (Nat → Int32) × (Nat → Int64) × (Nat → Int64)) => [(h_, .inr (5, [.ref h_rules, .ref h_input, .ref h_weights, .ref h_words])), (h_rules, .inr (6, [.ref h_rules_codes, .int c_rules_count])), (h_rules_codes, .inl (tc.1, 24, .inl c_rules_codes)), (h_input, .inr (3, [.ref h_input_terminals, .int c_input_length])), (h_input_terminals, .inl (tc.1, 40, .inl c_input_terminals)), (h_weights, .inl (tc.1, 8, .inl c_weights)), (h_words, .inr (10, [.ref h_words_costs, .ref h_words_highs, .ref h_words_lows])), (h_words_costs, .inl (tc.1, 1469, .inl u.1)), (h_words_highs, .inl (tc.2.1, 1469, .inr (.inl u.2.1))), (h_words_lows, .inl (tc.2.1, 1469, .inr (.inl u.2.2)))])) (bX5_findWords_41 N p1 p2 c_rules_codes c_rules_count k10 rc16 v11 v12 v13 v14 v15) [(h_, .inr (5, [.ref h_rules, .ref h_input, .ref h_weights, .ref h_words])), (h_rules, .inr (6, [.ref h_rules_codes, .int c_rules_count])), (h_rules_codes, .inl (tc.1, 24, .inl c_rules_codes)), (h_input, .inr (3, [.ref h_input_terminals, .int c_input_length])), (h_input_terminals, .inl (tc.1, 40, .inl c_input_terminals)), (h_weights, .inl (tc.1, 8, .inl c_weights)), (h_words, .inr (10, [.ref h_words_costs, .ref h_words_highs, .ref h_words_lows])), (h_words_costs, .inl (tc.1, 1469, .inl v13)), (h_words_highs, .inl (tc.2.1, 1469, .inr (.inl v14))), (h_words_lows, .inl (tc.2.1, 1469, .inr (.inl v15)))] 41 [(0, .ref h_), (1, .int p1), (2, .int p2), (3, .int v11), (4, .int v12)] [] := by
  unfold bX5_findWords_41
  refine j_iload C d5_findWords_41 4 rfl ?_
  refine j_const C d5_findWords_43 ?_
  refine j_icmp_ge C d5_findWords_46 ?_ ?_
  · exact j_sub [] rfl (hk10 _ _ _)
  · refine j_iload C d5_findWords_49 3 rfl ?_
    refine j_if_eq C d5_findWords_50 ?_ ?_
    · exact j_sub [] rfl (hk10 _ _ _)
    · refine j_const C d5_findWords_53 ?_
      refine j_istore C d5_findWords_54 (by decide) (lv' := [(3, .int 0), (0, .ref h_), (1, .int p1), (2, .int p2), (4, .int v12)]) rfl ?_
      refine j_const C d5_findWords_55 ?_
      refine j_istore C d5_findWords_56 (by decide) (lv' := [(5, .int 0), (3, .int 0), (0, .ref h_), (1, .int p1), (2, .int p2), (4, .int v12)]) rfl ?_
      refine j_join4 105 (fun v17 v18 v19 v20 => [(h_, .inr (5, [.ref h_rules, .ref h_input, .ref h_weights, .ref h_words])), (h_rules, .inr (6, [.ref h_rules_codes, .int c_rules_count])), (h_rules_codes, .inl (tc.1, 24, .inl c_rules_codes)), (h_input, .inr (3, [.ref h_input_terminals, .int c_input_length])), (h_input_terminals, .inl (tc.1, 40, .inl c_input_terminals)), (h_weights, .inl (tc.1, 8, .inl c_weights)), (h_words, .inr (10, [.ref h_words_costs, .ref h_words_highs, .ref h_words_lows])), (h_words_costs, .inl (tc.1, 1469, .inl v18)), (h_words_highs, .inl (tc.2.1, 1469, .inr (.inl v19))), (h_words_lows, .inl (tc.2.1, 1469, .inr (.inl v20)))]) (fun v17 v18 v19 v20 => [(0, .ref h_), (1, .int p1), (2, .int p2), (3, .int v17), (4, .int v12)]) (fun v17 v18 v19 v20 => []) (fun v17 v18 v19 v20 => ?_) (fun k22 hk22 => ?_)
      · refine j_iincN C (fun x21 => [(4, .int x21), (0, .ref h_), (1, .int p1), (2, .int p2), (3, .int v17)]) d5_findWords_105 4 rfl (by decide +kernel) (by decide) (fun _ => rfl) (fun x21 => ?_)
        refine j_goto C d5_findWords_108 ?_
        exact j_sub [1, 2, 3, 4, 0] rfl (hrc16 _ _ _ _ _)
      · exact j_sub [2, 3, 4, 1, 5, 0] rfl (j_loop5 (fun v23 v24 v25 v26 v27 => [(h_, .inr (5, [.ref h_rules, .ref h_input, .ref h_weights, .ref h_words])), (h_rules, .inr (6, [.ref h_rules_codes, .int c_rules_count])), (h_rules_codes, .inl (tc.1, 24, .inl c_rules_codes)), (h_input, .inr (3, [.ref h_input_terminals, .int c_input_length])), (h_input_terminals, .inl (tc.1, 40, .inl c_input_terminals)), (h_weights, .inl (tc.1, 8, .inl c_weights)), (h_words, .inr (10, [.ref h_words_costs, .ref h_words_highs, .ref h_words_lows])), (h_words_costs, .inl (tc.1, 1469, .inl v25)), (h_words_highs, .inl (tc.2.1, 1469, .inr (.inl v26))), (h_words_lows, .inl (tc.2.1, 1469, .inr (.inl v27)))]) (fun v23 v24 v25 v26 v27 => [(0, .ref h_), (1, .int p1), (2, .int p2), (3, .int v23), (4, .int v12), (5, .int v24)]) (fun rc28 hrc28 v23 v24 v25 v26 v27 => wX5_findWords_58 C N h_ h_rules h_rules_codes h_input h_input_terminals h_weights h_words h_words_costs h_words_highs h_words_lows p1 p2 c_rules_codes c_rules_count c_input_terminals c_input_length c_weights v12 k22 hk22 rc28 hrc28 v23 v24 v25 v26 v27) N _ _ _ _ _)

set_option maxHeartbeats 4000000 in
set_option maxRecDepth 100000 in
theorem wX5_findWords_8 {X : jC} {tc : jTC} (C : jx X cX5_findWords 6 RX5 none tc ({ frames := 4, cells := 0, slots := 0, locals := 106 } : Room)) (h_ h_rules h_rules_codes h_input h_input_terminals h_weights h_words h_words_costs h_words_highs h_words_lows : Nat) (p1 : Int32) (p2 : Int32) (c_rules_codes : (Nat → Int32)) (c_rules_count : Int32) (c_input_terminals : (Nat → Int32)) (c_input_length : Int32) (c_weights : (Nat → Int32)) (k46 : ((Nat → Int32) → (Nat → Int64) → (Nat → Int64) → Option ((Nat → Int32) × (Nat → Int64) × (Nat → Int64)))) (hk46 : ∀ (v57 : (Nat → Int32)) (v58 : (Nat → Int64)) (v59 : (Nat → Int64)), jo X 6 (0, 0) (jQV X (fun (u : (Nat → Int32) × (Nat → Int64) × (Nat → Int64)) => [(h_, .inr (5, [.ref h_rules, .ref h_input, .ref h_weights, .ref h_words])), (h_rules, .inr (6, [.ref h_rules_codes, .int c_rules_count])), (h_rules_codes, .inl (tc.1, 24, .inl c_rules_codes)), (h_input, .inr (3, [.ref h_input_terminals, .int c_input_length])), (h_input_terminals, .inl (tc.1, 40, .inl c_input_terminals)), (h_weights, .inl (tc.1, 8, .inl c_weights)), (h_words, .inr (10, [.ref h_words_costs, .ref h_words_highs, .ref h_words_lows])), (h_words_costs, .inl (tc.1, 1469, .inl u.1)), (h_words_highs, .inl (tc.2.1, 1469, .inr (.inl u.2.1))), (h_words_lows, .inl (tc.2.1, 1469, .inr (.inl u.2.2)))])) (k46 v57 v58 v59) [(h_, .inr (5, [.ref h_rules, .ref h_input, .ref h_weights, .ref h_words])), (h_rules, .inr (6, [.ref h_rules_codes, .int c_rules_count])), (h_rules_codes, .inl (tc.1, 24, .inl c_rules_codes)), (h_input, .inr (3, [.ref h_input_terminals, .int c_input_length])), (h_input_terminals, .inl (tc.1, 40, .inl c_input_terminals)), (h_weights, .inl (tc.1, 8, .inl c_weights)), (h_words, .inr (10, [.ref h_words_costs, .ref h_words_highs, .ref h_words_lows])), (h_words_costs, .inl (tc.1, 1469, .inl v57)), (h_words_highs, .inl (tc.2.1, 1469, .inr (.inl v58))), (h_words_lows, .inl (tc.2.1, 1469, .inr (.inl v59)))] 36 [(0, .ref h_), (1, .int p1), (2, .int p2)] []) (rc51 : Int32 → (Nat → Int32) → (Nat → Int64) → (Nat → Int64) → Option ((Nat → Int32) × (Nat → Int64) × (Nat → Int64))) (hrc51 : ∀ (v47 : Int32) (v48 : (Nat → Int32)) (v49 : (Nat → Int64)) (v50 : (Nat → Int64)), jo X 6 (0, 0) (jQV X (fun (u : (Nat → Int32) × (Nat → Int64) × (Nat → Int64)) => [(h_, .inr (5, [.ref h_rules, .ref h_input, .ref h_weights, .ref h_words])), (h_rules, .inr (6, [.ref h_rules_codes, .int c_rules_count])), (h_rules_codes, .inl (tc.1, 24, .inl c_rules_codes)), (h_input, .inr (3, [.ref h_input_terminals, .int c_input_length])), (h_input_terminals, .inl (tc.1, 40, .inl c_input_terminals)), (h_weights, .inl (tc.1, 8, .inl c_weights)), (h_words, .inr (10, [.ref h_words_costs, .ref h_words_highs, .ref h_words_lows])), (h_words_costs, .inl (tc.1, 1469, .inl u.1)), (h_words_highs, .inl (tc.2.1, 1469, .inr (.inl u.2.1))), (h_words_lows, .inl (tc.2.1, 1469, .inr (.inl u.2.2)))])) (rc51 v47 v48 v49 v50) [(h_, .inr (5, [.ref h_rules, .ref h_input, .ref h_weights, .ref h_words])), (h_rules, .inr (6, [.ref h_rules_codes, .int c_rules_count])), (h_rules_codes, .inl (tc.1, 24, .inl c_rules_codes)), (h_input, .inr (3, [.ref h_input_terminals, .int c_input_length])), (h_input_terminals, .inl (tc.1, 40, .inl c_input_terminals)), (h_weights, .inl (tc.1, 8, .inl c_weights)), (h_words, .inr (10, [.ref h_words_costs, .ref h_words_highs, .ref h_words_lows])), (h_words_costs, .inl (tc.1, 1469, .inl v48)), (h_words_highs, .inl (tc.2.1, 1469, .inr (.inl v49))), (h_words_lows, .inl (tc.2.1, 1469, .inr (.inl v50)))] 8 [(0, .ref h_), (1, .int p1), (2, .int p2), (3, .int v47)] []) (v47 : Int32) (v48 : (Nat → Int32)) (v49 : (Nat → Int64)) (v50 : (Nat → Int64)) : jo X 6 (0, 0) (jQV X (fun (u : (Nat → Int32) × (Nat → Int64) × (Nat → Int64)) => [(h_, .inr (5, [.ref h_rules, .ref h_input, .ref h_weights, .ref h_words])), (h_rules, .inr (6, [.ref h_rules_codes, .int c_rules_count])), (h_rules_codes, .inl (tc.1, 24, .inl c_rules_codes)), (h_input, .inr (3, [.ref h_input_terminals, .int c_input_length])), (h_input_terminals, .inl (tc.1, 40, .inl c_input_terminals)), (h_weights, .inl (tc.1, 8, .inl c_weights)), (h_words, .inr (10, [.ref h_words_costs, .ref h_words_highs, .ref h_words_lows])), (h_words_costs, .inl (tc.1, 1469, .inl u.1)), (h_words_highs, .inl (tc.2.1, 1469, .inr (.inl u.2.1))), (h_words_lows, .inl (tc.2.1, 1469, .inr (.inl u.2.2)))])) (bX5_findWords_8 p1 p2 k46 rc51 v47 v48 v49 v50) [(h_, .inr (5, [.ref h_rules, .ref h_input, .ref h_weights, .ref h_words])), (h_rules, .inr (6, [.ref h_rules_codes, .int c_rules_count])), (h_rules_codes, .inl (tc.1, 24, .inl c_rules_codes)), (h_input, .inr (3, [.ref h_input_terminals, .int c_input_length])), (h_input_terminals, .inl (tc.1, 40, .inl c_input_terminals)), (h_weights, .inl (tc.1, 8, .inl c_weights)), (h_words, .inr (10, [.ref h_words_costs, .ref h_words_highs, .ref h_words_lows])), (h_words_costs, .inl (tc.1, 1469, .inl v48)), (h_words_highs, .inl (tc.2.1, 1469, .inr (.inl v49))), (h_words_lows, .inl (tc.2.1, 1469, .inr (.inl v50)))] 8 [(0, .ref h_), (1, .int p1), (2, .int p2), (3, .int v47)] [] := by
  unfold bX5_findWords_8
  refine j_iload C d5_findWords_8 3 rfl ?_
  refine j_const C d5_findWords_9 ?_
  refine j_icmp_ge C d5_findWords_11 ?_ ?_
  · exact j_sub [0, 1, 2] rfl (hk46 _ _ _)
  · refine j_aload C d5_findWords_14 0 rfl ?_
    refine j_get C d5_findWords_15 fl5_20 0 rfl rfl ?_
    refine j_iload C d5_findWords_18 1 rfl ?_
    refine j_iload C d5_findWords_19 2 rfl ?_
    refine j_const C d5_findWords_20 ?_
    refine j_iload C d5_findWords_22 3 rfl ?_
    refine j_iadd C d5_findWords_23 ?_
    refine j_callSI0 (As := [.int p1, .int p2, .int ((10 : Int32) + v47)]) C d5_findWords_24 ms5_48 (kX5_wordOf _ _ tc p1 p2 ((10 : Int32) + v47)) ⟨rfl, rfl, Nat.le_of_ble_eq_true rfl, Nat.le_of_ble_eq_true rfl⟩ rfl [] rfl rfl rfl (Nat.le_of_ble_eq_true rfl) (fun x52 => ?_)
    refine j_callVV3 (As := [.int x52]) C d5_findWords_27 mv5_66 (kX10_putNone _ _ tc 1469 h_words h_words_costs h_words_highs h_words_lows v48 v49 v50 x52) ⟨rfl, rfl, Nat.le_of_ble_eq_true rfl, Nat.le_of_ble_eq_true rfl⟩ rfl 6 rfl [6, 7, 8, 9] rfl rfl rfl (Nat.le_of_ble_eq_true rfl) (fun o53 o54 o55 => [(h_, .inr (5, [.ref h_rules, .ref h_input, .ref h_weights, .ref h_words])), (h_rules, .inr (6, [.ref h_rules_codes, .int c_rules_count])), (h_rules_codes, .inl (tc.1, 24, .inl c_rules_codes)), (h_input, .inr (3, [.ref h_input_terminals, .int c_input_length])), (h_input_terminals, .inl (tc.1, 40, .inl c_input_terminals)), (h_weights, .inl (tc.1, 8, .inl c_weights)), (h_words, .inr (10, [.ref h_words_costs, .ref h_words_highs, .ref h_words_lows])), (h_words_costs, .inl (tc.1, 1469, .inl o53)), (h_words_highs, .inl (tc.2.1, 1469, .inr (.inl o54))), (h_words_lows, .inl (tc.2.1, 1469, .inr (.inl o55)))]) [(false, 0), (false, 1), (false, 2), (false, 3), (false, 4), (false, 5), (true, 0), (true, 1), (true, 2), (true, 3)] (fun _ => rfl) (by decide +kernel) (fun o53 o54 o55 => ?_)
    refine j_iincN C (fun x56 => [(3, .int x56), (0, .ref h_), (1, .int p1), (2, .int p2)]) d5_findWords_30 3 rfl (by decide +kernel) (by decide) (fun _ => rfl) (fun x56 => ?_)
    refine j_goto C d5_findWords_33 ?_
    exact j_sub [1, 2, 3, 0] rfl (hrc51 _ _ _ _)

set_option maxHeartbeats 4000000 in
set_option maxRecDepth 100000 in
theorem kX5_findWords (l : Launch) (D : va_G) (tc : jTC) (N : Nat) (h_ h_rules h_rules_codes h_input h_input_terminals h_weights h_words h_words_costs h_words_highs h_words_lows : Nat) (c_rules_codes : (Nat → Int32)) (c_rules_count : Int32) (c_input_terminals : (Nat → Int32)) (c_input_length : Int32) (c_weights : (Nat → Int32)) (c_words_costs : (Nat → Int32)) (c_words_highs : (Nat → Int64)) (c_words_lows : (Nat → Int64)) (p1 : Int32) (p2 : Int32) : ctV l D tc yX5_findWords (Cond.code yX5_findWords cX5_findWords 6 none :: jtb) ({ frames := 4, cells := 0, slots := 0, locals := 106 } : Room) [.ref h_, .int p1, .int p2] [(h_, .inr (5, [.ref h_rules, .ref h_input, .ref h_weights, .ref h_words])), (h_rules, .inr (6, [.ref h_rules_codes, .int c_rules_count])), (h_rules_codes, .inl (tc.1, 24, .inl c_rules_codes)), (h_input, .inr (3, [.ref h_input_terminals, .int c_input_length])), (h_input_terminals, .inl (tc.1, 40, .inl c_input_terminals)), (h_weights, .inl (tc.1, 8, .inl c_weights)), (h_words, .inr (10, [.ref h_words_costs, .ref h_words_highs, .ref h_words_lows])), (h_words_costs, .inl (tc.1, 1469, .inl c_words_costs)), (h_words_highs, .inl (tc.2.1, 1469, .inr (.inl c_words_highs))), (h_words_lows, .inl (tc.2.1, 1469, .inr (.inl c_words_lows)))] (fX5_findWords N c_rules_codes c_rules_count c_input_terminals c_input_length c_weights c_words_costs c_words_highs c_words_lows p1 p2) (fun (u : (Nat → Int32) × (Nat → Int64) × (Nat → Int64)) => [(h_, .inr (5, [.ref h_rules, .ref h_input, .ref h_weights, .ref h_words])), (h_rules, .inr (6, [.ref h_rules_codes, .int c_rules_count])), (h_rules_codes, .inl (tc.1, 24, .inl c_rules_codes)), (h_input, .inr (3, [.ref h_input_terminals, .int c_input_length])), (h_input_terminals, .inl (tc.1, 40, .inl c_input_terminals)), (h_weights, .inl (tc.1, 8, .inl c_weights)), (h_words, .inr (10, [.ref h_words_costs, .ref h_words_highs, .ref h_words_lows])), (h_words_costs, .inl (tc.1, 1469, .inl u.1)), (h_words_highs, .inl (tc.2.1, 1469, .inr (.inl u.2.1))), (h_words_lows, .inl (tc.2.1, 1469, .inr (.inl u.2.2)))]) := by
  refine ctV_of (lv0 := [(0, .ref h_), (1, .int p1), (2, .int p2)]) (by decide +kernel) (Nat.le_of_ble_eq_true rfl) rfl (fun X C => ?_)
  unfold fX5_findWords
  refine j_aload C d5_findWords_0 0 rfl ?_
  refine j_iload C d5_findWords_1 1 rfl ?_
  refine j_iload C d5_findWords_2 2 rfl ?_
  refine j_callVV3 (As := [.int p1, .int p2]) C d5_findWords_3 mv5_63 (kX5_putTerminals _ _ tc N h_ h_input h_input_terminals h_weights h_words h_words_costs h_words_highs h_words_lows (.ref h_rules) c_input_terminals c_input_length c_weights c_words_costs c_words_highs c_words_lows p1 p2) ⟨rfl, rfl, Nat.le_of_ble_eq_true rfl, Nat.le_of_ble_eq_true rfl⟩ rfl 0 rfl [0, 3, 4, 5, 6, 7, 8, 9] rfl rfl rfl (Nat.le_of_ble_eq_true rfl) (fun o1 o2 o3 => [(h_, .inr (5, [.ref h_rules, .ref h_input, .ref h_weights, .ref h_words])), (h_rules, .inr (6, [.ref h_rules_codes, .int c_rules_count])), (h_rules_codes, .inl (tc.1, 24, .inl c_rules_codes)), (h_input, .inr (3, [.ref h_input_terminals, .int c_input_length])), (h_input_terminals, .inl (tc.1, 40, .inl c_input_terminals)), (h_weights, .inl (tc.1, 8, .inl c_weights)), (h_words, .inr (10, [.ref h_words_costs, .ref h_words_highs, .ref h_words_lows])), (h_words_costs, .inl (tc.1, 1469, .inl o1)), (h_words_highs, .inl (tc.2.1, 1469, .inr (.inl o2))), (h_words_lows, .inl (tc.2.1, 1469, .inr (.inl o3)))]) [(true, 0), (false, 1), (false, 2), (true, 1), (true, 2), (true, 3), (true, 4), (true, 5), (true, 6), (true, 7)] (fun _ => rfl) (by decide +kernel) (fun o1 o2 o3 => ?_)
  refine j_const C d5_findWords_6 ?_
  refine j_istore C d5_findWords_7 (by decide) (lv' := [(3, .int 0), (0, .ref h_), (1, .int p1), (2, .int p2)]) rfl ?_
  refine j_join3 36 (fun v4 v5 v6 => [(h_, .inr (5, [.ref h_rules, .ref h_input, .ref h_weights, .ref h_words])), (h_rules, .inr (6, [.ref h_rules_codes, .int c_rules_count])), (h_rules_codes, .inl (tc.1, 24, .inl c_rules_codes)), (h_input, .inr (3, [.ref h_input_terminals, .int c_input_length])), (h_input_terminals, .inl (tc.1, 40, .inl c_input_terminals)), (h_weights, .inl (tc.1, 8, .inl c_weights)), (h_words, .inr (10, [.ref h_words_costs, .ref h_words_highs, .ref h_words_lows])), (h_words_costs, .inl (tc.1, 1469, .inl v4)), (h_words_highs, .inl (tc.2.1, 1469, .inr (.inl v5))), (h_words_lows, .inl (tc.2.1, 1469, .inr (.inl v6)))]) (fun v4 v5 v6 => [(0, .ref h_), (1, .int p1), (2, .int p2)]) (fun v4 v5 v6 => []) (fun v4 v5 v6 => ?_) (fun k46 hk46 => ?_)
  · refine j_const C d5_findWords_36 ?_
    refine j_istore C d5_findWords_37 (by decide) (lv' := [(3, .int 1), (0, .ref h_), (1, .int p1), (2, .int p2)]) rfl ?_
    refine j_const C d5_findWords_38 ?_
    refine j_istore C d5_findWords_39 (by decide) (lv' := [(4, .int 0), (3, .int 1), (0, .ref h_), (1, .int p1), (2, .int p2)]) rfl ?_
    refine j_join3 111 (fun v7 v8 v9 => [(h_, .inr (5, [.ref h_rules, .ref h_input, .ref h_weights, .ref h_words])), (h_rules, .inr (6, [.ref h_rules_codes, .int c_rules_count])), (h_rules_codes, .inl (tc.1, 24, .inl c_rules_codes)), (h_input, .inr (3, [.ref h_input_terminals, .int c_input_length])), (h_input_terminals, .inl (tc.1, 40, .inl c_input_terminals)), (h_weights, .inl (tc.1, 8, .inl c_weights)), (h_words, .inr (10, [.ref h_words_costs, .ref h_words_highs, .ref h_words_lows])), (h_words_costs, .inl (tc.1, 1469, .inl v7)), (h_words_highs, .inl (tc.2.1, 1469, .inr (.inl v8))), (h_words_lows, .inl (tc.2.1, 1469, .inr (.inl v9)))]) (fun v7 v8 v9 => []) (fun v7 v8 v9 => []) (fun v7 v8 v9 => ?_) (fun k10 hk10 => ?_)
    · exact j_vret C d5_findWords_111 rfl
    · exact j_sub [2, 3, 4, 1, 0] rfl (j_loop5 (fun v11 v12 v13 v14 v15 => [(h_, .inr (5, [.ref h_rules, .ref h_input, .ref h_weights, .ref h_words])), (h_rules, .inr (6, [.ref h_rules_codes, .int c_rules_count])), (h_rules_codes, .inl (tc.1, 24, .inl c_rules_codes)), (h_input, .inr (3, [.ref h_input_terminals, .int c_input_length])), (h_input_terminals, .inl (tc.1, 40, .inl c_input_terminals)), (h_weights, .inl (tc.1, 8, .inl c_weights)), (h_words, .inr (10, [.ref h_words_costs, .ref h_words_highs, .ref h_words_lows])), (h_words_costs, .inl (tc.1, 1469, .inl v13)), (h_words_highs, .inl (tc.2.1, 1469, .inr (.inl v14))), (h_words_lows, .inl (tc.2.1, 1469, .inr (.inl v15)))]) (fun v11 v12 v13 v14 v15 => [(0, .ref h_), (1, .int p1), (2, .int p2), (3, .int v11), (4, .int v12)]) (fun rc16 hrc16 v11 v12 v13 v14 v15 => wX5_findWords_41 C N h_ h_rules h_rules_codes h_input h_input_terminals h_weights h_words h_words_costs h_words_highs h_words_lows p1 p2 c_rules_codes c_rules_count c_input_terminals c_input_length c_weights k10 hk10 rc16 hrc16 v11 v12 v13 v14 v15) N _ _ _ _ _)
  · exact j_sub [1, 2, 3, 0] rfl (j_loop4 (fun v47 v48 v49 v50 => [(h_, .inr (5, [.ref h_rules, .ref h_input, .ref h_weights, .ref h_words])), (h_rules, .inr (6, [.ref h_rules_codes, .int c_rules_count])), (h_rules_codes, .inl (tc.1, 24, .inl c_rules_codes)), (h_input, .inr (3, [.ref h_input_terminals, .int c_input_length])), (h_input_terminals, .inl (tc.1, 40, .inl c_input_terminals)), (h_weights, .inl (tc.1, 8, .inl c_weights)), (h_words, .inr (10, [.ref h_words_costs, .ref h_words_highs, .ref h_words_lows])), (h_words_costs, .inl (tc.1, 1469, .inl v48)), (h_words_highs, .inl (tc.2.1, 1469, .inr (.inl v49))), (h_words_lows, .inl (tc.2.1, 1469, .inr (.inl v50)))]) (fun v47 v48 v49 v50 => [(0, .ref h_), (1, .int p1), (2, .int p2), (3, .int v47)]) (fun rc51 hrc51 v47 v48 v49 v50 => wX5_findWords_8 C h_ h_rules h_rules_codes h_input h_input_terminals h_weights h_words h_words_costs h_words_highs h_words_lows p1 p2 c_rules_codes c_rules_count c_input_terminals c_input_length c_weights k46 hk46 rc51 hrc51 v47 v48 v49 v50) N _ _ _ _)

theorem d10_lengthOf_0 : jda cX10_lengthOf 0 0 1 := Or.inl ⟨0, by decide +kernel⟩
theorem d10_lengthOf_1 : jdi cX10_lengthOf 1 1 2 := Or.inl ⟨1, by decide +kernel⟩
theorem d10_lengthOf_2 : jd cX10_lengthOf 2 (.invokevirtual 29) 3 5 := by decide +kernel
theorem d10_lengthOf_5 : jdb cX10_lengthOf 5 (.ifCond .eq 15) 15 20 8 := by decide +kernel
theorem d10_lengthOf_8 : jda cX10_lengthOf 8 0 9 := Or.inl ⟨0, by decide +kernel⟩
theorem d10_lengthOf_9 : jd cX10_lengthOf 9 (.getfield 17) 3 12 := by decide +kernel
theorem d10_lengthOf_12 : jdi cX10_lengthOf 12 1 13 := Or.inl ⟨1, by decide +kernel⟩
theorem d10_lengthOf_13 : jd cX10_lengthOf 13 (.iaload) 1 14 := by decide +kernel
theorem d10_lengthOf_14 : jdk cX10_lengthOf 14 10 16 := Or.inr (Or.inl ⟨10, by decide +kernel⟩)
theorem d10_lengthOf_16 : jd cX10_lengthOf 16 (.ishr) 1 17 := by decide +kernel
theorem d10_lengthOf_17 : jdb cX10_lengthOf 17 (.goto 5) 5 22 20 := by decide +kernel
theorem d10_lengthOf_20 : jdk cX10_lengthOf 20 (-2) 22 := Or.inr (Or.inl ⟨(-2), by decide +kernel⟩)
theorem d10_lengthOf_22 : decode cX10_lengthOf 22 = .ok (.ireturn, 1) := by decide +kernel
set_option maxHeartbeats 4000000 in
set_option maxRecDepth 100000 in
theorem kX10_lengthOf (l : Launch) (D : va_G) (tc : jTC) (n : Nat) (h_ h_costs : Nat) (g_highs g_lows : Value) (c_costs : (Nat → Int32)) (p1 : Int32) : ctI0 l D tc yX10_lengthOf (Cond.code yX10_lengthOf cX10_lengthOf 2 (some .int) :: jtb) ({ frames := 1, cells := 0, slots := 0, locals := 21 } : Room) [.ref h_, .int p1] [(h_, .inr (10, [.ref h_costs, g_highs, g_lows])), (h_costs, .inl (tc.1, n, .inl c_costs))] (fX10_lengthOf n c_costs p1) := by
  refine ctI0_of (lv0 := [(0, .ref h_), (1, .int p1)]) (by decide +kernel) (Nat.le_of_ble_eq_true rfl) rfl (fun X C => ?_)
  unfold fX10_lengthOf
  refine j_aload C d10_lengthOf_0 0 rfl ?_
  refine j_iload C d10_lengthOf_1 1 rfl ?_
  refine j_callVI0 (As := [.int p1]) C d10_lengthOf_2 mv10_29 (kX10_exists _ _ tc n h_ h_costs g_highs g_lows c_costs p1) ⟨rfl, rfl, Nat.le_of_ble_eq_true rfl, Nat.le_of_ble_eq_true rfl⟩ rfl 0 rfl [0, 1] rfl rfl rfl (Nat.le_of_ble_eq_true rfl) (fun x1 => ?_)
  refine j_join 22 (fun v2 => [(h_, .inr (10, [.ref h_costs, g_highs, g_lows])), (h_costs, .inl (tc.1, n, .inl c_costs))]) (fun v2 => []) (fun v2 => [.int v2]) (fun v2 => ?_) (fun k3 hk3 => ?_)
  · exact j_iret0 C d10_lengthOf_22
  · refine j_if_eq C d10_lengthOf_5 ?_ ?_
    · refine j_const C d10_lengthOf_20 ?_
      exact j_sub [] rfl (hk3 _)
    · refine j_aload C d10_lengthOf_8 0 rfl ?_
      refine j_get C d10_lengthOf_9 fl10_17 0 rfl rfl ?_
      refine j_iload C d10_lengthOf_12 1 rfl ?_
      refine j_iald C d10_lengthOf_13 1 rfl (fun x4 => ?_)
      refine j_const C d10_lengthOf_14 ?_
      refine j_ishr C d10_lengthOf_16 ?_
      refine j_goto C d10_lengthOf_17 ?_
      exact j_sub [] rfl (hk3 _)

theorem d5_findLeastInsertions_0 : jda cX5_findLeastInsertions 0 0 1 := Or.inl ⟨0, by decide +kernel⟩
theorem d5_findLeastInsertions_1 : jd cX5_findLeastInsertions 1 (.getfield 28) 3 4 := by decide +kernel
theorem d5_findLeastInsertions_4 : jd cX5_findLeastInsertions 4 (.getfield 32) 3 7 := by decide +kernel
theorem d5_findLeastInsertions_7 : jdk cX5_findLeastInsertions 7 8 9 := Or.inr (Or.inl ⟨8, by decide +kernel⟩)
theorem d5_findLeastInsertions_9 : jd cX5_findLeastInsertions 9 (.invokestatic 38) 3 12 := by decide +kernel
theorem d5_findLeastInsertions_12 : jds cX5_findLeastInsertions 12 1 13 := Or.inl ⟨1, by decide +kernel⟩
theorem d5_findLeastInsertions_13 : jdi cX5_findLeastInsertions 13 1 14 := Or.inl ⟨1, by decide +kernel⟩
theorem d5_findLeastInsertions_14 : jds cX5_findLeastInsertions 14 2 15 := Or.inl ⟨2, by decide +kernel⟩
theorem d5_findLeastInsertions_15 : jdi cX5_findLeastInsertions 15 2 16 := Or.inl ⟨2, by decide +kernel⟩
theorem d5_findLeastInsertions_16 : jdb cX5_findLeastInsertions 16 (.ifCond .lt 28) 28 44 19 := by decide +kernel
theorem d5_findLeastInsertions_19 : jdi cX5_findLeastInsertions 19 2 20 := Or.inl ⟨2, by decide +kernel⟩
theorem d5_findLeastInsertions_20 : jds cX5_findLeastInsertions 20 3 21 := Or.inl ⟨3, by decide +kernel⟩
theorem d5_findLeastInsertions_21 : jdi cX5_findLeastInsertions 21 3 22 := Or.inl ⟨3, by decide +kernel⟩
theorem d5_findLeastInsertions_22 : jdi cX5_findLeastInsertions 22 1 23 := Or.inl ⟨1, by decide +kernel⟩
theorem d5_findLeastInsertions_23 : jdb cX5_findLeastInsertions 23 (.if_icmp .gt 15) 15 38 26 := by decide +kernel
theorem d5_findLeastInsertions_26 : jda cX5_findLeastInsertions 26 0 27 := Or.inl ⟨0, by decide +kernel⟩
theorem d5_findLeastInsertions_27 : jdi cX5_findLeastInsertions 27 2 28 := Or.inl ⟨2, by decide +kernel⟩
theorem d5_findLeastInsertions_28 : jdi cX5_findLeastInsertions 28 3 29 := Or.inl ⟨3, by decide +kernel⟩
theorem d5_findLeastInsertions_29 : jd cX5_findLeastInsertions 29 (.invokevirtual 44) 3 32 := by decide +kernel
theorem d5_findLeastInsertions_32 : jd cX5_findLeastInsertions 32 (.iinc 3 1) 3 35 := by decide +kernel
theorem d5_findLeastInsertions_35 : jdb cX5_findLeastInsertions 35 (.goto (-14)) (-14) 21 38 := by decide +kernel
theorem d5_findLeastInsertions_38 : jd cX5_findLeastInsertions 38 (.iinc 2 (-1)) 3 41 := by decide +kernel
theorem d5_findLeastInsertions_41 : jdb cX5_findLeastInsertions 41 (.goto (-26)) (-26) 15 44 := by decide +kernel
theorem d5_findLeastInsertions_44 : jdk cX5_findLeastInsertions 44 0 45 := Or.inl ⟨0, by decide +kernel⟩
theorem d5_findLeastInsertions_45 : jdi cX5_findLeastInsertions 45 1 46 := Or.inl ⟨1, by decide +kernel⟩
theorem d5_findLeastInsertions_46 : jdk cX5_findLeastInsertions 46 10 48 := Or.inr (Or.inl ⟨10, by decide +kernel⟩)
theorem d5_findLeastInsertions_48 : jd cX5_findLeastInsertions 48 (.invokestatic 48) 3 51 := by decide +kernel
theorem d5_findLeastInsertions_51 : jds cX5_findLeastInsertions 51 2 52 := Or.inl ⟨2, by decide +kernel⟩
theorem d5_findLeastInsertions_52 : jda cX5_findLeastInsertions 52 0 53 := Or.inl ⟨0, by decide +kernel⟩
theorem d5_findLeastInsertions_53 : jd cX5_findLeastInsertions 53 (.getfield 20) 3 56 := by decide +kernel
theorem d5_findLeastInsertions_56 : jdi cX5_findLeastInsertions 56 2 57 := Or.inl ⟨2, by decide +kernel⟩
theorem d5_findLeastInsertions_57 : jd cX5_findLeastInsertions 57 (.invokevirtual 52) 3 60 := by decide +kernel
theorem d5_findLeastInsertions_60 : jdb cX5_findLeastInsertions 60 (.ifCond .ne 6) 6 66 63 := by decide +kernel
theorem d5_findLeastInsertions_63 : jdk cX5_findLeastInsertions 63 (-2) 65 := Or.inr (Or.inl ⟨(-2), by decide +kernel⟩)
theorem d5_findLeastInsertions_65 : decode cX5_findLeastInsertions 65 = .ok (.ireturn, 1) := by decide +kernel
theorem d5_findLeastInsertions_66 : jda cX5_findLeastInsertions 66 0 67 := Or.inl ⟨0, by decide +kernel⟩
theorem d5_findLeastInsertions_67 : jd cX5_findLeastInsertions 67 (.getfield 20) 3 70 := by decide +kernel
theorem d5_findLeastInsertions_70 : jdk cX5_findLeastInsertions 70 1468 73 := Or.inr (Or.inr ⟨1468, by decide +kernel⟩)
theorem d5_findLeastInsertions_73 : jdi cX5_findLeastInsertions 73 2 74 := Or.inl ⟨2, by decide +kernel⟩
theorem d5_findLeastInsertions_74 : jd cX5_findLeastInsertions 74 (.invokevirtual 56) 3 77 := by decide +kernel
theorem d5_findLeastInsertions_77 : jda cX5_findLeastInsertions 77 0 78 := Or.inl ⟨0, by decide +kernel⟩
theorem d5_findLeastInsertions_78 : jd cX5_findLeastInsertions 78 (.getfield 20) 3 81 := by decide +kernel
theorem d5_findLeastInsertions_81 : jdk cX5_findLeastInsertions 81 1468 84 := Or.inr (Or.inr ⟨1468, by decide +kernel⟩)
theorem d5_findLeastInsertions_84 : jd cX5_findLeastInsertions 84 (.invokevirtual 59) 3 87 := by decide +kernel
theorem d5_findLeastInsertions_87 : jdi cX5_findLeastInsertions 87 1 88 := Or.inl ⟨1, by decide +kernel⟩
theorem d5_findLeastInsertions_88 : jd cX5_findLeastInsertions 88 (.isub) 1 89 := by decide +kernel
theorem d5_findLeastInsertions_89 : decode cX5_findLeastInsertions 89 = .ok (.ireturn, 1) := by decide +kernel
set_option maxHeartbeats 4000000 in
set_option maxRecDepth 100000 in
theorem wX5_findLeastInsertions_21 {X : jC} {tc : jTC} (C : jx X cX5_findLeastInsertions 4 RX5 (some .int) tc ({ frames := 5, cells := 0, slots := 0, locals := 131 } : Room)) (N : Nat) (h_ h_rules h_rules_codes h_input h_input_terminals h_weights h_words h_words_costs h_words_highs h_words_lows : Nat) (c_rules_codes : (Nat → Int32)) (c_rules_count : Int32) (c_input_terminals : (Nat → Int32)) (c_input_length : Int32) (c_weights : (Nat → Int32)) (x1 : Int32) (v12 : Int32) (k21 : ((Nat → Int32) → (Nat → Int64) → (Nat → Int64) → Option (Int32 × (Nat → Int32) × (Nat → Int64) × (Nat → Int64)))) (hk21 : ∀ (v31 : (Nat → Int32)) (v32 : (Nat → Int64)) (v33 : (Nat → Int64)), jo X 4 (0, 0) (jQI X (fun (u : (Nat → Int32) × (Nat → Int64) × (Nat → Int64)) => [(h_, .inr (5, [.ref h_rules, .ref h_input, .ref h_weights, .ref h_words])), (h_rules, .inr (6, [.ref h_rules_codes, .int c_rules_count])), (h_rules_codes, .inl (tc.1, 24, .inl c_rules_codes)), (h_input, .inr (3, [.ref h_input_terminals, .int c_input_length])), (h_input_terminals, .inl (tc.1, 40, .inl c_input_terminals)), (h_weights, .inl (tc.1, 8, .inl c_weights)), (h_words, .inr (10, [.ref h_words_costs, .ref h_words_highs, .ref h_words_lows])), (h_words_costs, .inl (tc.1, 1469, .inl u.1)), (h_words_highs, .inl (tc.2.1, 1469, .inr (.inl u.2.1))), (h_words_lows, .inl (tc.2.1, 1469, .inr (.inl u.2.2)))])) (k21 v31 v32 v33) [(h_, .inr (5, [.ref h_rules, .ref h_input, .ref h_weights, .ref h_words])), (h_rules, .inr (6, [.ref h_rules_codes, .int c_rules_count])), (h_rules_codes, .inl (tc.1, 24, .inl c_rules_codes)), (h_input, .inr (3, [.ref h_input_terminals, .int c_input_length])), (h_input_terminals, .inl (tc.1, 40, .inl c_input_terminals)), (h_weights, .inl (tc.1, 8, .inl c_weights)), (h_words, .inr (10, [.ref h_words_costs, .ref h_words_highs, .ref h_words_lows])), (h_words_costs, .inl (tc.1, 1469, .inl v31)), (h_words_highs, .inl (tc.2.1, 1469, .inr (.inl v32))), (h_words_lows, .inl (tc.2.1, 1469, .inr (.inl v33)))] 38 [(0, .ref h_), (1, .int x1), (2, .int v12)] []) (rc26 : Int32 → (Nat → Int32) → (Nat → Int64) → (Nat → Int64) → Option (Int32 × (Nat → Int32) × (Nat → Int64) × (Nat → Int64))) (hrc26 : ∀ (v22 : Int32) (v23 : (Nat → Int32)) (v24 : (Nat → Int64)) (v25 : (Nat → Int64)), jo X 4 (0, 0) (jQI X (fun (u : (Nat → Int32) × (Nat → Int64) × (Nat → Int64)) => [(h_, .inr (5, [.ref h_rules, .ref h_input, .ref h_weights, .ref h_words])), (h_rules, .inr (6, [.ref h_rules_codes, .int c_rules_count])), (h_rules_codes, .inl (tc.1, 24, .inl c_rules_codes)), (h_input, .inr (3, [.ref h_input_terminals, .int c_input_length])), (h_input_terminals, .inl (tc.1, 40, .inl c_input_terminals)), (h_weights, .inl (tc.1, 8, .inl c_weights)), (h_words, .inr (10, [.ref h_words_costs, .ref h_words_highs, .ref h_words_lows])), (h_words_costs, .inl (tc.1, 1469, .inl u.1)), (h_words_highs, .inl (tc.2.1, 1469, .inr (.inl u.2.1))), (h_words_lows, .inl (tc.2.1, 1469, .inr (.inl u.2.2)))])) (rc26 v22 v23 v24 v25) [(h_, .inr (5, [.ref h_rules, .ref h_input, .ref h_weights, .ref h_words])), (h_rules, .inr (6, [.ref h_rules_codes, .int c_rules_count])), (h_rules_codes, .inl (tc.1, 24, .inl c_rules_codes)), (h_input, .inr (3, [.ref h_input_terminals, .int c_input_length])), (h_input_terminals, .inl (tc.1, 40, .inl c_input_terminals)), (h_weights, .inl (tc.1, 8, .inl c_weights)), (h_words, .inr (10, [.ref h_words_costs, .ref h_words_highs, .ref h_words_lows])), (h_words_costs, .inl (tc.1, 1469, .inl v23)), (h_words_highs, .inl (tc.2.1, 1469, .inr (.inl v24))), (h_words_lows, .inl (tc.2.1, 1469, .inr (.inl v25)))] 21 [(0, .ref h_), (1, .int x1), (2, .int v12), (3, .int v22)] []) (v22 : Int32) (v23 : (Nat → Int32)) (v24 : (Nat → Int64)) (v25 : (Nat → Int64)) : jo X 4 (0, 0) (jQI X (fun (u : (Nat → Int32) × (Nat → Int64) × (Nat → Int64)) => [(h_, .inr (5, [.ref h_rules, .ref h_input, .ref h_weights, .ref h_words])), (h_rules, .inr (6, [.ref h_rules_codes, .int c_rules_count])), (h_rules_codes, .inl (tc.1, 24, .inl c_rules_codes)), (h_input, .inr (3, [.ref h_input_terminals, .int c_input_length])), (h_input_terminals, .inl (tc.1, 40, .inl c_input_terminals)), (h_weights, .inl (tc.1, 8, .inl c_weights)), (h_words, .inr (10, [.ref h_words_costs, .ref h_words_highs, .ref h_words_lows])), (h_words_costs, .inl (tc.1, 1469, .inl u.1)), (h_words_highs, .inl (tc.2.1, 1469, .inr (.inl u.2.1))), (h_words_lows, .inl (tc.2.1, 1469, .inr (.inl u.2.2)))])) (bX5_findLeastInsertions_21 N c_rules_codes c_rules_count c_input_terminals c_input_length c_weights x1 v12 k21 rc26 v22 v23 v24 v25) [(h_, .inr (5, [.ref h_rules, .ref h_input, .ref h_weights, .ref h_words])), (h_rules, .inr (6, [.ref h_rules_codes, .int c_rules_count])), (h_rules_codes, .inl (tc.1, 24, .inl c_rules_codes)), (h_input, .inr (3, [.ref h_input_terminals, .int c_input_length])), (h_input_terminals, .inl (tc.1, 40, .inl c_input_terminals)), (h_weights, .inl (tc.1, 8, .inl c_weights)), (h_words, .inr (10, [.ref h_words_costs, .ref h_words_highs, .ref h_words_lows])), (h_words_costs, .inl (tc.1, 1469, .inl v23)), (h_words_highs, .inl (tc.2.1, 1469, .inr (.inl v24))), (h_words_lows, .inl (tc.2.1, 1469, .inr (.inl v25)))] 21 [(0, .ref h_), (1, .int x1), (2, .int v12), (3, .int v22)] [] := by
  unfold bX5_findLeastInsertions_21
  refine j_iload C d5_findLeastInsertions_21 3 rfl ?_
  refine j_iload C d5_findLeastInsertions_22 1 rfl ?_
  refine j_icmp_gt C d5_findLeastInsertions_23 ?_ ?_
  · exact j_sub [0, 1, 2] rfl (hk21 _ _ _)
  · refine j_aload C d5_findLeastInsertions_26 0 rfl ?_
    refine j_iload C d5_findLeastInsertions_27 2 rfl ?_
    refine j_iload C d5_findLeastInsertions_28 3 rfl ?_
    refine j_callVV3 (As := [.int v12, .int v22]) C d5_findLeastInsertions_29 mv5_44 (kX5_findWords _ _ tc N h_ h_rules h_rules_codes h_input h_input_terminals h_weights h_words h_words_costs h_words_highs h_words_lows c_rules_codes c_rules_count c_input_terminals c_input_length c_weights v23 v24 v25 v12 v22) ⟨rfl, rfl, Nat.le_of_ble_eq_true rfl, Nat.le_of_ble_eq_true rfl⟩ rfl 0 rfl [0, 1, 2, 3, 4, 5, 6, 7, 8, 9] rfl rfl rfl (Nat.le_of_ble_eq_true rfl) (fun o27 o28 o29 => [(h_, .inr (5, [.ref h_rules, .ref h_input, .ref h_weights, .ref h_words])), (h_rules, .inr (6, [.ref h_rules_codes, .int c_rules_count])), (h_rules_codes, .inl (tc.1, 24, .inl c_rules_codes)), (h_input, .inr (3, [.ref h_input_terminals, .int c_input_length])), (h_input_terminals, .inl (tc.1, 40, .inl c_input_terminals)), (h_weights, .inl (tc.1, 8, .inl c_weights)), (h_words, .inr (10, [.ref h_words_costs, .ref h_words_highs, .ref h_words_lows])), (h_words_costs, .inl (tc.1, 1469, .inl o27)), (h_words_highs, .inl (tc.2.1, 1469, .inr (.inl o28))), (h_words_lows, .inl (tc.2.1, 1469, .inr (.inl o29)))]) [(true, 0), (true, 1), (true, 2), (true, 3), (true, 4), (true, 5), (true, 6), (true, 7), (true, 8), (true, 9)] (fun _ => rfl) (by decide +kernel) (fun o27 o28 o29 => ?_)
    refine j_iincN C (fun x30 => [(3, .int x30), (0, .ref h_), (1, .int x1), (2, .int v12)]) d5_findLeastInsertions_32 3 rfl (by decide +kernel) (by decide) (fun _ => rfl) (fun x30 => ?_)
    refine j_goto C d5_findLeastInsertions_35 ?_
    exact j_sub [1, 2, 3, 0] rfl (hrc26 _ _ _ _)

set_option maxHeartbeats 4000000 in
set_option maxRecDepth 100000 in
theorem wX5_findLeastInsertions_15 {X : jC} {tc : jTC} (C : jx X cX5_findLeastInsertions 4 RX5 (some .int) tc ({ frames := 5, cells := 0, slots := 0, locals := 131 } : Room)) (N : Nat) (h_ h_rules h_rules_codes h_input h_input_terminals h_weights h_words h_words_costs h_words_highs h_words_lows : Nat) (c_rules_codes : (Nat → Int32)) (c_rules_count : Int32) (c_input_terminals : (Nat → Int32)) (c_input_length : Int32) (c_weights : (Nat → Int32)) (x1 : Int32) (k11 : ((Nat → Int32) → (Nat → Int64) → (Nat → Int64) → Option (Int32 × (Nat → Int32) × (Nat → Int64) × (Nat → Int64)))) (hk11 : ∀ (v34 : (Nat → Int32)) (v35 : (Nat → Int64)) (v36 : (Nat → Int64)), jo X 4 (0, 0) (jQI X (fun (u : (Nat → Int32) × (Nat → Int64) × (Nat → Int64)) => [(h_, .inr (5, [.ref h_rules, .ref h_input, .ref h_weights, .ref h_words])), (h_rules, .inr (6, [.ref h_rules_codes, .int c_rules_count])), (h_rules_codes, .inl (tc.1, 24, .inl c_rules_codes)), (h_input, .inr (3, [.ref h_input_terminals, .int c_input_length])), (h_input_terminals, .inl (tc.1, 40, .inl c_input_terminals)), (h_weights, .inl (tc.1, 8, .inl c_weights)), (h_words, .inr (10, [.ref h_words_costs, .ref h_words_highs, .ref h_words_lows])), (h_words_costs, .inl (tc.1, 1469, .inl u.1)), (h_words_highs, .inl (tc.2.1, 1469, .inr (.inl u.2.1))), (h_words_lows, .inl (tc.2.1, 1469, .inr (.inl u.2.2)))])) (k11 v34 v35 v36) [(h_, .inr (5, [.ref h_rules, .ref h_input, .ref h_weights, .ref h_words])), (h_rules, .inr (6, [.ref h_rules_codes, .int c_rules_count])), (h_rules_codes, .inl (tc.1, 24, .inl c_rules_codes)), (h_input, .inr (3, [.ref h_input_terminals, .int c_input_length])), (h_input_terminals, .inl (tc.1, 40, .inl c_input_terminals)), (h_weights, .inl (tc.1, 8, .inl c_weights)), (h_words, .inr (10, [.ref h_words_costs, .ref h_words_highs, .ref h_words_lows])), (h_words_costs, .inl (tc.1, 1469, .inl v34)), (h_words_highs, .inl (tc.2.1, 1469, .inr (.inl v35))), (h_words_lows, .inl (tc.2.1, 1469, .inr (.inl v36)))] 44 [(0, .ref h_), (1, .int x1)] []) (rc16 : Int32 → (Nat → Int32) → (Nat → Int64) → (Nat → Int64) → Option (Int32 × (Nat → Int32) × (Nat → Int64) × (Nat → Int64))) (hrc16 : ∀ (v12 : Int32) (v13 : (Nat → Int32)) (v14 : (Nat → Int64)) (v15 : (Nat → Int64)), jo X 4 (0, 0) (jQI X (fun (u : (Nat → Int32) × (Nat → Int64) × (Nat → Int64)) => [(h_, .inr (5, [.ref h_rules, .ref h_input, .ref h_weights, .ref h_words])), (h_rules, .inr (6, [.ref h_rules_codes, .int c_rules_count])), (h_rules_codes, .inl (tc.1, 24, .inl c_rules_codes)), (h_input, .inr (3, [.ref h_input_terminals, .int c_input_length])), (h_input_terminals, .inl (tc.1, 40, .inl c_input_terminals)), (h_weights, .inl (tc.1, 8, .inl c_weights)), (h_words, .inr (10, [.ref h_words_costs, .ref h_words_highs, .ref h_words_lows])), (h_words_costs, .inl (tc.1, 1469, .inl u.1)), (h_words_highs, .inl (tc.2.1, 1469, .inr (.inl u.2.1))), (h_words_lows, .inl (tc.2.1, 1469, .inr (.inl u.2.2)))])) (rc16 v12 v13 v14 v15) [(h_, .inr (5, [.ref h_rules, .ref h_input, .ref h_weights, .ref h_words])), (h_rules, .inr (6, [.ref h_rules_codes, .int c_rules_count])), (h_rules_codes, .inl (tc.1, 24, .inl c_rules_codes)), (h_input, .inr (3, [.ref h_input_terminals, .int c_input_length])), (h_input_terminals, .inl (tc.1, 40, .inl c_input_terminals)), (h_weights, .inl (tc.1, 8, .inl c_weights)), (h_words, .inr (10, [.ref h_words_costs, .ref h_words_highs, .ref h_words_lows])), (h_words_costs, .inl (tc.1, 1469, .inl v13)), (h_words_highs, .inl (tc.2.1, 1469, .inr (.inl v14))), (h_words_lows, .inl (tc.2.1, 1469, .inr (.inl v15)))] 15 [(0, .ref h_), (1, .int x1), (2, .int v12)] []) (v12 : Int32) (v13 : (Nat → Int32)) (v14 : (Nat → Int64)) (v15 : (Nat → Int64)) : jo X 4 (0, 0) (jQI X (fun (u : (Nat → Int32) × (Nat → Int64) × (Nat → Int64)) => [(h_, .inr (5, [.ref h_rules, .ref h_input, .ref h_weights, .ref h_words])), (h_rules, .inr (6, [.ref h_rules_codes, .int c_rules_count])), (h_rules_codes, .inl (tc.1, 24, .inl c_rules_codes)), (h_input, .inr (3, [.ref h_input_terminals, .int c_input_length])), (h_input_terminals, .inl (tc.1, 40, .inl c_input_terminals)), (h_weights, .inl (tc.1, 8, .inl c_weights)), (h_words, .inr (10, [.ref h_words_costs, .ref h_words_highs, .ref h_words_lows])), (h_words_costs, .inl (tc.1, 1469, .inl u.1)), (h_words_highs, .inl (tc.2.1, 1469, .inr (.inl u.2.1))), (h_words_lows, .inl (tc.2.1, 1469, .inr (.inl u.2.2)))])) (bX5_findLeastInsertions_15 N c_rules_codes c_rules_count c_input_terminals c_input_length c_weights x1 k11 rc16 v12 v13 v14 v15) [(h_, .inr (5, [.ref h_rules, .ref h_input, .ref h_weights, .ref h_words])), (h_rules, .inr (6, [.ref h_rules_codes, .int c_rules_count])), (h_rules_codes, .inl (tc.1, 24, .inl c_rules_codes)), (h_input, .inr (3, [.ref h_input_terminals, .int c_input_length])), (h_input_terminals, .inl (tc.1, 40, .inl c_input_terminals)), (h_weights, .inl (tc.1, 8, .inl c_weights)), (h_words, .inr (10, [.ref h_words_costs, .ref h_words_highs, .ref h_words_lows])), (h_words_costs, .inl (tc.1, 1469, .inl v13)), (h_words_highs, .inl (tc.2.1, 1469, .inr (.inl v14))), (h_words_lows, .inl (tc.2.1, 1469, .inr (.inl v15)))] 15 [(0, .ref h_), (1, .int x1), (2, .int v12)] [] := by
  unfold bX5_findLeastInsertions_15
  refine j_iload C d5_findLeastInsertions_15 2 rfl ?_
  refine j_if_lt C d5_findLeastInsertions_16 ?_ ?_
  · exact j_sub [0, 1] rfl (hk11 _ _ _)
  · refine j_iload C d5_findLeastInsertions_19 2 rfl ?_
    refine j_istore C d5_findLeastInsertions_20 (by decide) (lv' := [(3, .int v12), (0, .ref h_), (1, .int x1), (2, .int v12)]) rfl ?_
    refine j_join3 38 (fun v17 v18 v19 => [(h_, .inr (5, [.ref h_rules, .ref h_input, .ref h_weights, .ref h_words])), (h_rules, .inr (6, [.ref h_rules_codes, .int c_rules_count])), (h_rules_codes, .inl (tc.1, 24, .inl c_rules_codes)), (h_input, .inr (3, [.ref h_input_terminals, .int c_input_length])), (h_input_terminals, .inl (tc.1, 40, .inl c_input_terminals)), (h_weights, .inl (tc.1, 8, .inl c_weights)), (h_words, .inr (10, [.ref h_words_costs, .ref h_words_highs, .ref h_words_lows])), (h_words_costs, .inl (tc.1, 1469, .inl v17)), (h_words_highs, .inl (tc.2.1, 1469, .inr (.inl v18))), (h_words_lows, .inl (tc.2.1, 1469, .inr (.inl v19)))]) (fun v17 v18 v19 => [(0, .ref h_), (1, .int x1), (2, .int v12)]) (fun v17 v18 v19 => []) (fun v17 v18 v19 => ?_) (fun k21 hk21 => ?_)
    · refine j_iincN C (fun x20 => [(2, .int x20), (0, .ref h_), (1, .int x1)]) d5_findLeastInsertions_38 2 rfl (by decide +kernel) (by decide) (fun _ => rfl) (fun x20 => ?_)
      refine j_goto C d5_findLeastInsertions_41 ?_
      exact j_sub [1, 2, 0] rfl (hrc16 _ _ _ _)
    · exact j_sub [1, 2, 3, 0] rfl (j_loop4 (fun v22 v23 v24 v25 => [(h_, .inr (5, [.ref h_rules, .ref h_input, .ref h_weights, .ref h_words])), (h_rules, .inr (6, [.ref h_rules_codes, .int c_rules_count])), (h_rules_codes, .inl (tc.1, 24, .inl c_rules_codes)), (h_input, .inr (3, [.ref h_input_terminals, .int c_input_length])), (h_input_terminals, .inl (tc.1, 40, .inl c_input_terminals)), (h_weights, .inl (tc.1, 8, .inl c_weights)), (h_words, .inr (10, [.ref h_words_costs, .ref h_words_highs, .ref h_words_lows])), (h_words_costs, .inl (tc.1, 1469, .inl v23)), (h_words_highs, .inl (tc.2.1, 1469, .inr (.inl v24))), (h_words_lows, .inl (tc.2.1, 1469, .inr (.inl v25)))]) (fun v22 v23 v24 v25 => [(0, .ref h_), (1, .int x1), (2, .int v12), (3, .int v22)]) (fun rc26 hrc26 v22 v23 v24 v25 => wX5_findLeastInsertions_21 C N h_ h_rules h_rules_codes h_input h_input_terminals h_weights h_words h_words_costs h_words_highs h_words_lows c_rules_codes c_rules_count c_input_terminals c_input_length c_weights x1 v12 k21 hk21 rc26 hrc26 v22 v23 v24 v25) N _ _ _ _)

set_option maxHeartbeats 4000000 in
set_option maxRecDepth 100000 in
theorem kX5_findLeastInsertions (l : Launch) (D : va_G) (tc : jTC) (N : Nat) (h_ h_rules h_rules_codes h_input h_input_terminals h_weights h_words h_words_costs h_words_highs h_words_lows : Nat) (c_rules_codes : (Nat → Int32)) (c_rules_count : Int32) (c_input_terminals : (Nat → Int32)) (c_input_length : Int32) (c_weights : (Nat → Int32)) (c_words_costs : (Nat → Int32)) (c_words_highs : (Nat → Int64)) (c_words_lows : (Nat → Int64)) : ctI l D tc yX5_findLeastInsertions (Cond.code yX5_findLeastInsertions cX5_findLeastInsertions 4 (some .int) :: jtb) ({ frames := 5, cells := 0, slots := 0, locals := 131 } : Room) [.ref h_] [(h_, .inr (5, [.ref h_rules, .ref h_input, .ref h_weights, .ref h_words])), (h_rules, .inr (6, [.ref h_rules_codes, .int c_rules_count])), (h_rules_codes, .inl (tc.1, 24, .inl c_rules_codes)), (h_input, .inr (3, [.ref h_input_terminals, .int c_input_length])), (h_input_terminals, .inl (tc.1, 40, .inl c_input_terminals)), (h_weights, .inl (tc.1, 8, .inl c_weights)), (h_words, .inr (10, [.ref h_words_costs, .ref h_words_highs, .ref h_words_lows])), (h_words_costs, .inl (tc.1, 1469, .inl c_words_costs)), (h_words_highs, .inl (tc.2.1, 1469, .inr (.inl c_words_highs))), (h_words_lows, .inl (tc.2.1, 1469, .inr (.inl c_words_lows)))] (fX5_findLeastInsertions N c_rules_codes c_rules_count c_input_terminals c_input_length c_weights c_words_costs c_words_highs c_words_lows) (fun (u : (Nat → Int32) × (Nat → Int64) × (Nat → Int64)) => [(h_, .inr (5, [.ref h_rules, .ref h_input, .ref h_weights, .ref h_words])), (h_rules, .inr (6, [.ref h_rules_codes, .int c_rules_count])), (h_rules_codes, .inl (tc.1, 24, .inl c_rules_codes)), (h_input, .inr (3, [.ref h_input_terminals, .int c_input_length])), (h_input_terminals, .inl (tc.1, 40, .inl c_input_terminals)), (h_weights, .inl (tc.1, 8, .inl c_weights)), (h_words, .inr (10, [.ref h_words_costs, .ref h_words_highs, .ref h_words_lows])), (h_words_costs, .inl (tc.1, 1469, .inl u.1)), (h_words_highs, .inl (tc.2.1, 1469, .inr (.inl u.2.1))), (h_words_lows, .inl (tc.2.1, 1469, .inr (.inl u.2.2)))]) := by
  refine ctI_of (lv0 := [(0, .ref h_)]) (by decide +kernel) (Nat.le_of_ble_eq_true rfl) rfl (fun X C => ?_)
  unfold fX5_findLeastInsertions
  refine j_aload C d5_findLeastInsertions_0 0 rfl ?_
  refine j_get C d5_findLeastInsertions_1 fl5_28 0 rfl rfl ?_
  refine j_get C d5_findLeastInsertions_4 fl5_32 3 rfl rfl ?_
  refine j_const C d5_findLeastInsertions_7 ?_
  refine j_mmin C d5_findLeastInsertions_9 kj5_38 rfl ⟨Nat.le_of_ble_eq_true rfl, Nat.le_of_ble_eq_true rfl⟩ (Nat.le_of_ble_eq_true rfl) ?_
  refine j_leti (fun x1 => ?_)
  refine j_istore C d5_findLeastInsertions_12 (by decide) (lv' := [(1, .int x1), (0, .ref h_)]) rfl ?_
  refine j_iload C d5_findLeastInsertions_13 0 rfl ?_
  refine j_istore C d5_findLeastInsertions_14 (by decide) (lv' := [(2, .int x1), (1, .int x1), (0, .ref h_)]) rfl ?_
  refine j_join3 44 (fun v2 v3 v4 => [(h_, .inr (5, [.ref h_rules, .ref h_input, .ref h_weights, .ref h_words])), (h_rules, .inr (6, [.ref h_rules_codes, .int c_rules_count])), (h_rules_codes, .inl (tc.1, 24, .inl c_rules_codes)), (h_input, .inr (3, [.ref h_input_terminals, .int c_input_length])), (h_input_terminals, .inl (tc.1, 40, .inl c_input_terminals)), (h_weights, .inl (tc.1, 8, .inl c_weights)), (h_words, .inr (10, [.ref h_words_costs, .ref h_words_highs, .ref h_words_lows])), (h_words_costs, .inl (tc.1, 1469, .inl v2)), (h_words_highs, .inl (tc.2.1, 1469, .inr (.inl v3))), (h_words_lows, .inl (tc.2.1, 1469, .inr (.inl v4)))]) (fun v2 v3 v4 => [(0, .ref h_), (1, .int x1)]) (fun v2 v3 v4 => []) (fun v2 v3 v4 => ?_) (fun k11 hk11 => ?_)
  · refine j_const C d5_findLeastInsertions_44 ?_
    refine j_iload C d5_findLeastInsertions_45 1 rfl ?_
    refine j_const C d5_findLeastInsertions_46 ?_
    refine j_callSI0 (As := [.int 0, .int x1, .int 10]) C d5_findLeastInsertions_48 ms5_48 (kX5_wordOf _ _ tc 0 x1 10) ⟨rfl, rfl, Nat.le_of_ble_eq_true rfl, Nat.le_of_ble_eq_true rfl⟩ rfl [] rfl rfl rfl (Nat.le_of_ble_eq_true rfl) (fun x5 => ?_)
    refine j_istore C d5_findLeastInsertions_51 (by decide) (lv' := [(2, .int x5), (0, .ref h_), (1, .int x1)]) rfl ?_
    refine j_aload C d5_findLeastInsertions_52 1 rfl ?_
    refine j_get C d5_findLeastInsertions_53 fl5_20 0 rfl rfl ?_
    refine j_iload C d5_findLeastInsertions_56 0 rfl ?_
    refine j_callVI0 (As := [.int x5]) C d5_findLeastInsertions_57 mv5_52 (kX10_exists _ _ tc 1469 h_words h_words_costs (.ref h_words_highs) (.ref h_words_lows) v2 x5) ⟨rfl, rfl, Nat.le_of_ble_eq_true rfl, Nat.le_of_ble_eq_true rfl⟩ rfl 6 rfl [6, 7] rfl rfl rfl (Nat.le_of_ble_eq_true rfl) (fun x6 => ?_)
    refine j_if_ne C d5_findLeastInsertions_60 ?_ ?_
    · refine j_aload C d5_findLeastInsertions_66 1 rfl ?_
      refine j_get C d5_findLeastInsertions_67 fl5_20 0 rfl rfl ?_
      refine j_const C d5_findLeastInsertions_70 ?_
      refine j_iload C d5_findLeastInsertions_73 0 rfl ?_
      refine j_callVV3 (As := [.int 1468, .int x5]) C d5_findLeastInsertions_74 mv5_56 (kX10_putCopy _ _ tc 1469 h_words h_words_costs h_words_highs h_words_lows v2 v3 v4 1468 x5) ⟨rfl, rfl, Nat.le_of_ble_eq_true rfl, Nat.le_of_ble_eq_true rfl⟩ rfl 6 rfl [6, 7, 8, 9] rfl rfl rfl (Nat.le_of_ble_eq_true rfl) (fun o7 o8 o9 => [(h_, .inr (5, [.ref h_rules, .ref h_input, .ref h_weights, .ref h_words])), (h_rules, .inr (6, [.ref h_rules_codes, .int c_rules_count])), (h_rules_codes, .inl (tc.1, 24, .inl c_rules_codes)), (h_input, .inr (3, [.ref h_input_terminals, .int c_input_length])), (h_input_terminals, .inl (tc.1, 40, .inl c_input_terminals)), (h_weights, .inl (tc.1, 8, .inl c_weights)), (h_words, .inr (10, [.ref h_words_costs, .ref h_words_highs, .ref h_words_lows])), (h_words_costs, .inl (tc.1, 1469, .inl o7)), (h_words_highs, .inl (tc.2.1, 1469, .inr (.inl o8))), (h_words_lows, .inl (tc.2.1, 1469, .inr (.inl o9)))]) [(false, 0), (false, 1), (false, 2), (false, 3), (false, 4), (false, 5), (true, 0), (true, 1), (true, 2), (true, 3)] (fun _ => rfl) (by decide +kernel) (fun o7 o8 o9 => ?_)
      refine j_aload C d5_findLeastInsertions_77 1 rfl ?_
      refine j_get C d5_findLeastInsertions_78 fl5_20 0 rfl rfl ?_
      refine j_const C d5_findLeastInsertions_81 ?_
      refine j_callVI0 (As := [.int 1468]) C d5_findLeastInsertions_84 mv5_59 (kX10_lengthOf _ _ tc 1469 h_words h_words_costs (.ref h_words_highs) (.ref h_words_lows) o7 1468) ⟨rfl, rfl, Nat.le_of_ble_eq_true rfl, Nat.le_of_ble_eq_true rfl⟩ rfl 6 rfl [6, 7] rfl rfl rfl (Nat.le_of_ble_eq_true rfl) (fun x10 => ?_)
      refine j_iload C d5_findLeastInsertions_87 2 rfl ?_
      refine j_isub C d5_findLeastInsertions_88 ?_
      exact j_iret C d5_findLeastInsertions_89 rfl
    · refine j_const C d5_findLeastInsertions_63 ?_
      exact j_iret C d5_findLeastInsertions_65 rfl
  · exact j_sub [2, 1, 0] rfl (j_loop4 (fun v12 v13 v14 v15 => [(h_, .inr (5, [.ref h_rules, .ref h_input, .ref h_weights, .ref h_words])), (h_rules, .inr (6, [.ref h_rules_codes, .int c_rules_count])), (h_rules_codes, .inl (tc.1, 24, .inl c_rules_codes)), (h_input, .inr (3, [.ref h_input_terminals, .int c_input_length])), (h_input_terminals, .inl (tc.1, 40, .inl c_input_terminals)), (h_weights, .inl (tc.1, 8, .inl c_weights)), (h_words, .inr (10, [.ref h_words_costs, .ref h_words_highs, .ref h_words_lows])), (h_words_costs, .inl (tc.1, 1469, .inl v13)), (h_words_highs, .inl (tc.2.1, 1469, .inr (.inl v14))), (h_words_lows, .inl (tc.2.1, 1469, .inr (.inl v15)))]) (fun v12 v13 v14 v15 => [(0, .ref h_), (1, .int x1), (2, .int v12)]) (fun rc16 hrc16 v12 v13 v14 v15 => wX5_findLeastInsertions_15 C N h_ h_rules h_rules_codes h_input h_input_terminals h_weights h_words h_words_costs h_words_highs h_words_lows c_rules_codes c_rules_count c_input_terminals c_input_length c_weights x1 k11 hk11 rc16 hrc16 v12 v13 v14 v15) N _ _ _ _)

theorem d6_emptyOf_0 : jdi cX6_emptyOf 0 0 1 := Or.inl ⟨0, by decide +kernel⟩
theorem d6_emptyOf_1 : decode cX6_emptyOf 1 = .ok (.ireturn, 1) := by decide +kernel
set_option maxHeartbeats 4000000 in
set_option maxRecDepth 100000 in
theorem kX6_emptyOf (l : Launch) (D : va_G) (tc : jTC) (p0 : Int32) : ctI0 l D tc yX6_emptyOf (Cond.code yX6_emptyOf cX6_emptyOf 1 (some .int) :: jtb) ({ frames := 0, cells := 0, slots := 0, locals := 0 } : Room) [.int p0] [] (fX6_emptyOf p0) := by
  refine ctI0_of (lv0 := [(0, .int p0)]) (by decide +kernel) (Nat.le_of_ble_eq_true rfl) rfl (fun X C => ?_)
  unfold fX6_emptyOf
  refine j_iload C d6_emptyOf_0 0 rfl ?_
  exact j_iret0 C d6_emptyOf_1

theorem d6_isRecursive_0 : jdi cX6_isRecursive 0 0 1 := Or.inl ⟨0, by decide +kernel⟩
theorem d6_isRecursive_1 : jd cX6_isRecursive 1 (.invokestatic 19) 3 4 := by decide +kernel
theorem d6_isRecursive_4 : jdb cX6_isRecursive 4 (.ifCond .le 22) 22 26 7 := by decide +kernel
theorem d6_isRecursive_7 : jdi cX6_isRecursive 7 0 8 := Or.inl ⟨0, by decide +kernel⟩
theorem d6_isRecursive_8 : jdk cX6_isRecursive 8 0 9 := Or.inl ⟨0, by decide +kernel⟩
theorem d6_isRecursive_9 : jd cX6_isRecursive 9 (.invokestatic 22) 3 12 := by decide +kernel
theorem d6_isRecursive_12 : jdk cX6_isRecursive 12 10 14 := Or.inr (Or.inl ⟨10, by decide +kernel⟩)
theorem d6_isRecursive_14 : jdi cX6_isRecursive 14 0 15 := Or.inl ⟨0, by decide +kernel⟩
theorem d6_isRecursive_15 : jd cX6_isRecursive 15 (.invokestatic 15) 3 18 := by decide +kernel
theorem d6_isRecursive_18 : jd cX6_isRecursive 18 (.iadd) 1 19 := by decide +kernel
theorem d6_isRecursive_19 : jdb cX6_isRecursive 19 (.if_icmp .ne 7) 7 26 22 := by decide +kernel
theorem d6_isRecursive_22 : jdk cX6_isRecursive 22 1 23 := Or.inl ⟨1, by decide +kernel⟩
theorem d6_isRecursive_23 : jdb cX6_isRecursive 23 (.goto 4) 4 27 26 := by decide +kernel
theorem d6_isRecursive_26 : jdk cX6_isRecursive 26 0 27 := Or.inl ⟨0, by decide +kernel⟩
theorem d6_isRecursive_27 : decode cX6_isRecursive 27 = .ok (.ireturn, 1) := by decide +kernel
set_option maxHeartbeats 4000000 in
set_option maxRecDepth 100000 in
theorem kX6_isRecursive (l : Launch) (D : va_G) (tc : jTC) (p0 : Int32) : ctI0 l D tc yX6_isRecursive (Cond.code yX6_isRecursive cX6_isRecursive 1 (some .boolean) :: jtb) ({ frames := 1, cells := 0, slots := 0, locals := 21 } : Room) [.int p0] [] (fX6_isRecursive p0) := by
  refine ctI0_of (lv0 := [(0, .int p0)]) (by decide +kernel) (Nat.le_of_ble_eq_true rfl) rfl (fun X C => ?_)
  unfold fX6_isRecursive
  refine j_iload C d6_isRecursive_0 0 rfl ?_
  refine j_callSI0 (As := [.int p0]) C d6_isRecursive_1 ms6_19 (kX6_lengthOf _ _ tc p0) ⟨rfl, rfl, Nat.le_of_ble_eq_true rfl, Nat.le_of_ble_eq_true rfl⟩ rfl [] rfl rfl rfl (Nat.le_of_ble_eq_true rfl) (fun x1 => ?_)
  refine j_join 27 (fun v2 => []) (fun v2 => []) (fun v2 => [.int v2]) (fun v2 => ?_) (fun k3 hk3 => ?_)
  · refine j_gz (fun hz => ?_)
    exact j_zret0 C hz d6_isRecursive_27
  · refine j_join 26 (fun v4 => []) (fun v4 => []) (fun v4 => []) (fun v4 => ?_) (fun k5 hk5 => ?_)
    · refine j_const C d6_isRecursive_26 ?_
      exact hk3 _
    · refine j_if_le C d6_isRecursive_4 ?_ ?_
      · exact j_sub [] rfl (hk5 _)
      · refine j_iload C d6_isRecursive_7 0 rfl ?_
        refine j_const C d6_isRecursive_8 ?_
        refine j_callSI0 (As := [.int p0, .int 0]) C d6_isRecursive_9 ms6_22 (kX6_symbolOf _ _ tc p0 0) ⟨rfl, rfl, Nat.le_of_ble_eq_true rfl, Nat.le_of_ble_eq_true rfl⟩ rfl [] rfl rfl rfl (Nat.le_of_ble_eq_true rfl) (fun x6 => ?_)
        refine j_const C d6_isRecursive_12 ?_
        refine j_iload C d6_isRecursive_14 0 rfl ?_
        refine j_callSI0 (As := [.int p0]) C d6_isRecursive_15 ms6_15 (kX6_leftOf _ _ tc p0) ⟨rfl, rfl, Nat.le_of_ble_eq_true rfl, Nat.le_of_ble_eq_true rfl⟩ rfl [] rfl rfl rfl (Nat.le_of_ble_eq_true rfl) (fun x7 => ?_)
        refine j_iadd C d6_isRecursive_18 ?_
        refine j_icmp_ne C d6_isRecursive_19 ?_ ?_
        · exact j_sub [] rfl (hk5 _)
        · refine j_const C d6_isRecursive_22 ?_
          refine j_goto C d6_isRecursive_23 ?_
          exact j_sub [] rfl (hk3 _)

theorem d6_extended_0 : jdi cX6_extended 0 0 1 := Or.inl ⟨0, by decide +kernel⟩
theorem d6_extended_1 : jd cX6_extended 1 (.invokestatic 19) 3 4 := by decide +kernel
theorem d6_extended_4 : jds cX6_extended 4 2 5 := Or.inl ⟨2, by decide +kernel⟩
theorem d6_extended_5 : jdi cX6_extended 5 0 6 := Or.inl ⟨0, by decide +kernel⟩
theorem d6_extended_6 : jdk cX6_extended 6 8 8 := Or.inr (Or.inl ⟨8, by decide +kernel⟩)
theorem d6_extended_8 : jd cX6_extended 8 (.iadd) 1 9 := by decide +kernel
theorem d6_extended_9 : jdi cX6_extended 9 1 10 := Or.inl ⟨1, by decide +kernel⟩
theorem d6_extended_10 : jdk cX6_extended 10 6 12 := Or.inr (Or.inl ⟨6, by decide +kernel⟩)
theorem d6_extended_12 : jdk cX6_extended 12 5 13 := Or.inl ⟨5, by decide +kernel⟩
theorem d6_extended_13 : jdi cX6_extended 13 2 14 := Or.inl ⟨2, by decide +kernel⟩
theorem d6_extended_14 : jd cX6_extended 14 (.imul) 1 15 := by decide +kernel
theorem d6_extended_15 : jd cX6_extended 15 (.iadd) 1 16 := by decide +kernel
theorem d6_extended_16 : jd cX6_extended 16 (.ishl) 1 17 := by decide +kernel
theorem d6_extended_17 : jd cX6_extended 17 (.iadd) 1 18 := by decide +kernel
theorem d6_extended_18 : decode cX6_extended 18 = .ok (.ireturn, 1) := by decide +kernel
set_option maxHeartbeats 4000000 in
set_option maxRecDepth 100000 in
theorem kX6_extended (l : Launch) (D : va_G) (tc : jTC) (p0 : Int32) (p1 : Int32) : ctI0 l D tc yX6_extended (Cond.code yX6_extended cX6_extended 3 (some .int) :: jtb) ({ frames := 1, cells := 0, slots := 0, locals := 20 } : Room) [.int p0, .int p1] [] (fX6_extended p0 p1) := by
  refine ctI0_of (lv0 := [(0, .int p0), (1, .int p1)]) (by decide +kernel) (Nat.le_of_ble_eq_true rfl) rfl (fun X C => ?_)
  unfold fX6_extended
  refine j_iload C d6_extended_0 0 rfl ?_
  refine j_callSI0 (As := [.int p0]) C d6_extended_1 ms6_19 (kX6_lengthOf _ _ tc p0) ⟨rfl, rfl, Nat.le_of_ble_eq_true rfl, Nat.le_of_ble_eq_true rfl⟩ rfl [] rfl rfl rfl (Nat.le_of_ble_eq_true rfl) (fun x1 => ?_)
  refine j_istore C d6_extended_4 (by decide) (lv' := [(2, .int x1), (0, .int p0), (1, .int p1)]) rfl ?_
  refine j_iload C d6_extended_5 1 rfl ?_
  refine j_const C d6_extended_6 ?_
  refine j_iadd C d6_extended_8 ?_
  refine j_iload C d6_extended_9 2 rfl ?_
  refine j_const C d6_extended_10 ?_
  refine j_const C d6_extended_12 ?_
  refine j_iload C d6_extended_13 0 rfl ?_
  refine j_imul C d6_extended_14 ?_
  refine j_iadd C d6_extended_15 ?_
  refine j_ishl C d6_extended_16 ?_
  refine j_iadd C d6_extended_17 ?_
  exact j_iret0 C d6_extended_18

theorem d6_extendedByArgument_0 : jdi cX6_extendedByArgument 0 0 1 := Or.inl ⟨0, by decide +kernel⟩
theorem d6_extendedByArgument_1 : jdb cX6_extendedByArgument 1 (.ifCond .lt 8) 8 9 4 := by decide +kernel
theorem d6_extendedByArgument_4 : jdi cX6_extendedByArgument 4 2 5 := Or.inl ⟨2, by decide +kernel⟩
theorem d6_extendedByArgument_5 : jdk cX6_extendedByArgument 5 (-1) 6 := Or.inl ⟨(-1), by decide +kernel⟩
theorem d6_extendedByArgument_6 : jdb cX6_extendedByArgument 6 (.if_icmp .ne 5) 5 11 9 := by decide +kernel
theorem d6_extendedByArgument_9 : jdi cX6_extendedByArgument 9 0 10 := Or.inl ⟨0, by decide +kernel⟩
theorem d6_extendedByArgument_10 : decode cX6_extendedByArgument 10 = .ok (.ireturn, 1) := by decide +kernel
theorem d6_extendedByArgument_11 : jdi cX6_extendedByArgument 11 2 12 := Or.inl ⟨2, by decide +kernel⟩
theorem d6_extendedByArgument_12 : jdb cX6_extendedByArgument 12 (.ifCond .lt 13) 13 25 15 := by decide +kernel
theorem d6_extendedByArgument_15 : jdi cX6_extendedByArgument 15 2 16 := Or.inl ⟨2, by decide +kernel⟩
theorem d6_extendedByArgument_16 : jdk cX6_extendedByArgument 16 8 18 := Or.inr (Or.inl ⟨8, by decide +kernel⟩)
theorem d6_extendedByArgument_18 : jdb cX6_extendedByArgument 18 (.if_icmp .ge 7) 7 25 21 := by decide +kernel
theorem d6_extendedByArgument_21 : jdk cX6_extendedByArgument 21 1 22 := Or.inl ⟨1, by decide +kernel⟩
theorem d6_extendedByArgument_22 : jdb cX6_extendedByArgument 22 (.goto 4) 4 26 25 := by decide +kernel
theorem d6_extendedByArgument_25 : jdk cX6_extendedByArgument 25 0 26 := Or.inl ⟨0, by decide +kernel⟩
theorem d6_extendedByArgument_26 : jds cX6_extendedByArgument 26 3 27 := Or.inl ⟨3, by decide +kernel⟩
theorem d6_extendedByArgument_27 : jdi cX6_extendedByArgument 27 2 28 := Or.inl ⟨2, by decide +kernel⟩
theorem d6_extendedByArgument_28 : jdk cX6_extendedByArgument 28 10 30 := Or.inr (Or.inl ⟨10, by decide +kernel⟩)
theorem d6_extendedByArgument_30 : jdb cX6_extendedByArgument 30 (.if_icmp .lt 13) 13 43 33 := by decide +kernel
theorem d6_extendedByArgument_33 : jdi cX6_extendedByArgument 33 2 34 := Or.inl ⟨2, by decide +kernel⟩
theorem d6_extendedByArgument_34 : jdk cX6_extendedByArgument 34 18 36 := Or.inr (Or.inl ⟨18, by decide +kernel⟩)
theorem d6_extendedByArgument_36 : jdb cX6_extendedByArgument 36 (.if_icmp .ge 7) 7 43 39 := by decide +kernel
theorem d6_extendedByArgument_39 : jdk cX6_extendedByArgument 39 1 40 := Or.inl ⟨1, by decide +kernel⟩
theorem d6_extendedByArgument_40 : jdb cX6_extendedByArgument 40 (.goto 4) 4 44 43 := by decide +kernel
theorem d6_extendedByArgument_43 : jdk cX6_extendedByArgument 43 0 44 := Or.inl ⟨0, by decide +kernel⟩
theorem d6_extendedByArgument_44 : jds cX6_extendedByArgument 44 4 46 := Or.inr (by decide +kernel)
theorem d6_extendedByArgument_46 : jdi cX6_extendedByArgument 46 0 47 := Or.inl ⟨0, by decide +kernel⟩
theorem d6_extendedByArgument_47 : jd cX6_extendedByArgument 47 (.invokestatic 19) 3 50 := by decide +kernel
theorem d6_extendedByArgument_50 : jdi cX6_extendedByArgument 50 1 51 := Or.inl ⟨1, by decide +kernel⟩
theorem d6_extendedByArgument_51 : jdb cX6_extendedByArgument 51 (.if_icmp .ne 12) 12 63 54 := by decide +kernel
theorem d6_extendedByArgument_54 : jdi cX6_extendedByArgument 54 3 55 := Or.inl ⟨3, by decide +kernel⟩
theorem d6_extendedByArgument_55 : jdb cX6_extendedByArgument 55 (.ifCond .ne 10) 10 65 58 := by decide +kernel
theorem d6_extendedByArgument_58 : jdi cX6_extendedByArgument 58 4 60 := Or.inr (by decide +kernel)
theorem d6_extendedByArgument_60 : jdb cX6_extendedByArgument 60 (.ifCond .ne 5) 5 65 63 := by decide +kernel
theorem d6_extendedByArgument_63 : jdk cX6_extendedByArgument 63 (-1) 64 := Or.inl ⟨(-1), by decide +kernel⟩
theorem d6_extendedByArgument_64 : decode cX6_extendedByArgument 64 = .ok (.ireturn, 1) := by decide +kernel
theorem d6_extendedByArgument_65 : jdi cX6_extendedByArgument 65 0 66 := Or.inl ⟨0, by decide +kernel⟩
theorem d6_extendedByArgument_66 : jdi cX6_extendedByArgument 66 2 67 := Or.inl ⟨2, by decide +kernel⟩
theorem d6_extendedByArgument_67 : jd cX6_extendedByArgument 67 (.invokestatic 26) 3 70 := by decide +kernel
theorem d6_extendedByArgument_70 : decode cX6_extendedByArgument 70 = .ok (.ireturn, 1) := by decide +kernel
set_option maxHeartbeats 4000000 in
set_option maxRecDepth 100000 in
theorem kX6_extendedByArgument (l : Launch) (D : va_G) (tc : jTC) (p0 : Int32) (p1 : Int32) (p2 : Int32) : ctI0 l D tc yX6_extendedByArgument (Cond.code yX6_extendedByArgument cX6_extendedByArgument 5 (some .int) :: jtb) ({ frames := 2, cells := 0, slots := 0, locals := 42 } : Room) [.int p0, .int p1, .int p2] [] (fX6_extendedByArgument p0 p1 p2) := by
  refine ctI0_of (lv0 := [(0, .int p0), (1, .int p1), (2, .int p2)]) (by decide +kernel) (Nat.le_of_ble_eq_true rfl) rfl (fun X C => ?_)
  unfold fX6_extendedByArgument
  refine j_iload C d6_extendedByArgument_0 0 rfl ?_
  refine j_join 9 (fun v1 => []) (fun v1 => [(0, .int p0)]) (fun v1 => []) (fun v1 => ?_) (fun k2 hk2 => ?_)
  · refine j_iload C d6_extendedByArgument_9 0 rfl ?_
    exact j_iret0 C d6_extendedByArgument_10
  · refine j_if_lt C d6_extendedByArgument_1 ?_ ?_
    · exact j_sub [0] rfl (hk2 _)
    · refine j_iload C d6_extendedByArgument_4 2 rfl ?_
      refine j_const C d6_extendedByArgument_5 ?_
      refine j_icmp_ne C d6_extendedByArgument_6 ?_ ?_
      · refine j_iload C d6_extendedByArgument_11 2 rfl ?_
        refine j_join 26 (fun v3 => []) (fun v3 => [(0, .int p0), (1, .int p1), (2, .int p2)]) (fun v3 => [.int v3]) (fun v3 => ?_) (fun k14 hk14 => ?_)
        · refine j_istore C d6_extendedByArgument_26 (by decide) (lv' := [(3, .int v3), (0, .int p0), (1, .int p1), (2, .int p2)]) rfl ?_
          refine j_iload C d6_extendedByArgument_27 3 rfl ?_
          refine j_const C d6_extendedByArgument_28 ?_
          refine j_join 44 (fun v4 => []) (fun v4 => [(0, .int p0), (1, .int p1), (2, .int p2), (3, .int v3)]) (fun v4 => [.int v4]) (fun v4 => ?_) (fun k11 hk11 => ?_)
          · refine j_istore C d6_extendedByArgument_44 (by decide) (lv' := [(4, .int v4), (0, .int p0), (1, .int p1), (2, .int p2), (3, .int v3)]) rfl ?_
            refine j_iload C d6_extendedByArgument_46 1 rfl ?_
            refine j_callSI0 (As := [.int p0]) C d6_extendedByArgument_47 ms6_19 (kX6_lengthOf _ _ tc p0) ⟨rfl, rfl, Nat.le_of_ble_eq_true rfl, Nat.le_of_ble_eq_true rfl⟩ rfl [] rfl rfl rfl (Nat.le_of_ble_eq_true rfl) (fun x5 => ?_)
            refine j_iload C d6_extendedByArgument_50 2 rfl ?_
            refine j_join 63 (fun v6 => []) (fun v6 => []) (fun v6 => []) (fun v6 => ?_) (fun k7 hk7 => ?_)
            · refine j_const C d6_extendedByArgument_63 ?_
              exact j_iret0 C d6_extendedByArgument_64
            · refine j_icmp_ne C d6_extendedByArgument_51 ?_ ?_
              · exact j_sub [] rfl (hk7 _)
              · refine j_iload C d6_extendedByArgument_54 4 rfl ?_
                refine j_join 65 (fun v8 => []) (fun v8 => [(0, .int p0), (2, .int p2)]) (fun v8 => []) (fun v8 => ?_) (fun k10 hk10 => ?_)
                · refine j_iload C d6_extendedByArgument_65 0 rfl ?_
                  refine j_iload C d6_extendedByArgument_66 1 rfl ?_
                  refine j_callSI0 (As := [.int p0, .int p2]) C d6_extendedByArgument_67 ms6_26 (kX6_extended _ _ tc p0 p2) ⟨rfl, rfl, Nat.le_of_ble_eq_true rfl, Nat.le_of_ble_eq_true rfl⟩ rfl [] rfl rfl rfl (Nat.le_of_ble_eq_true rfl) (fun x9 => ?_)
                  exact j_iret0 C d6_extendedByArgument_70
                · refine j_if_ne C d6_extendedByArgument_55 ?_ ?_
                  · exact j_sub [1, 3] rfl (hk10 _)
                  · refine j_iload C d6_extendedByArgument_58 0 rfl ?_
                    refine j_if_ne C d6_extendedByArgument_60 ?_ ?_
                    · exact j_sub [1, 3] rfl (hk10 _)
                    · exact j_sub [] rfl (hk7 _)
          · refine j_join 43 (fun v12 => []) (fun v12 => [(0, .int p0), (1, .int p1), (2, .int p2), (3, .int v3)]) (fun v12 => []) (fun v12 => ?_) (fun k13 hk13 => ?_)
            · refine j_const C d6_extendedByArgument_43 ?_
              exact hk11 _
            · refine j_icmp_lt C d6_extendedByArgument_30 ?_ ?_
              · exact j_sub [1, 2, 3, 0] rfl (hk13 _)
              · refine j_iload C d6_extendedByArgument_33 3 rfl ?_
                refine j_const C d6_extendedByArgument_34 ?_
                refine j_icmp_ge C d6_extendedByArgument_36 ?_ ?_
                · exact j_sub [1, 2, 3, 0] rfl (hk13 _)
                · refine j_const C d6_extendedByArgument_39 ?_
                  refine j_goto C d6_extendedByArgument_40 ?_
                  exact j_sub [1, 2, 3, 0] rfl (hk11 _)
        · refine j_join 25 (fun v15 => []) (fun v15 => [(0, .int p0), (1, .int p1), (2, .int p2)]) (fun v15 => []) (fun v15 => ?_) (fun k16 hk16 => ?_)
          · refine j_const C d6_extendedByArgument_25 ?_
            exact hk14 _
          · refine j_if_lt C d6_extendedByArgument_12 ?_ ?_
            · exact hk16 _
            · refine j_iload C d6_extendedByArgument_15 2 rfl ?_
              refine j_const C d6_extendedByArgument_16 ?_
              refine j_icmp_ge C d6_extendedByArgument_18 ?_ ?_
              · exact hk16 _
              · refine j_const C d6_extendedByArgument_21 ?_
                refine j_goto C d6_extendedByArgument_22 ?_
                exact hk14 _
      · exact j_sub [0] rfl (hk2 _)

theorem d6_nonterminalsIn_0 : jdk cX6_nonterminalsIn 0 0 1 := Or.inl ⟨0, by decide +kernel⟩
theorem d6_nonterminalsIn_1 : jds cX6_nonterminalsIn 1 1 2 := Or.inl ⟨1, by decide +kernel⟩
theorem d6_nonterminalsIn_2 : jdk cX6_nonterminalsIn 2 0 3 := Or.inl ⟨0, by decide +kernel⟩
theorem d6_nonterminalsIn_3 : jds cX6_nonterminalsIn 3 2 4 := Or.inl ⟨2, by decide +kernel⟩
theorem d6_nonterminalsIn_4 : jdi cX6_nonterminalsIn 4 2 5 := Or.inl ⟨2, by decide +kernel⟩
theorem d6_nonterminalsIn_5 : jdi cX6_nonterminalsIn 5 0 6 := Or.inl ⟨0, by decide +kernel⟩
theorem d6_nonterminalsIn_6 : jd cX6_nonterminalsIn 6 (.invokestatic 19) 3 9 := by decide +kernel
theorem d6_nonterminalsIn_9 : jdb cX6_nonterminalsIn 9 (.if_icmp .ge 30) 30 39 12 := by decide +kernel
theorem d6_nonterminalsIn_12 : jdi cX6_nonterminalsIn 12 0 13 := Or.inl ⟨0, by decide +kernel⟩
theorem d6_nonterminalsIn_13 : jdi cX6_nonterminalsIn 13 2 14 := Or.inl ⟨2, by decide +kernel⟩
theorem d6_nonterminalsIn_14 : jd cX6_nonterminalsIn 14 (.invokestatic 22) 3 17 := by decide +kernel
theorem d6_nonterminalsIn_17 : jds cX6_nonterminalsIn 17 3 18 := Or.inl ⟨3, by decide +kernel⟩
theorem d6_nonterminalsIn_18 : jdi cX6_nonterminalsIn 18 3 19 := Or.inl ⟨3, by decide +kernel⟩
theorem d6_nonterminalsIn_19 : jdk cX6_nonterminalsIn 19 10 21 := Or.inr (Or.inl ⟨10, by decide +kernel⟩)
theorem d6_nonterminalsIn_21 : jdb cX6_nonterminalsIn 21 (.if_icmp .lt 12) 12 33 24 := by decide +kernel
theorem d6_nonterminalsIn_24 : jdi cX6_nonterminalsIn 24 1 25 := Or.inl ⟨1, by decide +kernel⟩
theorem d6_nonterminalsIn_25 : jdk cX6_nonterminalsIn 25 1 26 := Or.inl ⟨1, by decide +kernel⟩
theorem d6_nonterminalsIn_26 : jdi cX6_nonterminalsIn 26 3 27 := Or.inl ⟨3, by decide +kernel⟩
theorem d6_nonterminalsIn_27 : jdk cX6_nonterminalsIn 27 10 29 := Or.inr (Or.inl ⟨10, by decide +kernel⟩)
theorem d6_nonterminalsIn_29 : jd cX6_nonterminalsIn 29 (.isub) 1 30 := by decide +kernel
theorem d6_nonterminalsIn_30 : jd cX6_nonterminalsIn 30 (.ishl) 1 31 := by decide +kernel
theorem d6_nonterminalsIn_31 : jd cX6_nonterminalsIn 31 (.ior) 1 32 := by decide +kernel
theorem d6_nonterminalsIn_32 : jds cX6_nonterminalsIn 32 1 33 := Or.inl ⟨1, by decide +kernel⟩
theorem d6_nonterminalsIn_33 : jd cX6_nonterminalsIn 33 (.iinc 2 1) 3 36 := by decide +kernel
theorem d6_nonterminalsIn_36 : jdb cX6_nonterminalsIn 36 (.goto (-32)) (-32) 4 39 := by decide +kernel
theorem d6_nonterminalsIn_39 : jdi cX6_nonterminalsIn 39 1 40 := Or.inl ⟨1, by decide +kernel⟩
theorem d6_nonterminalsIn_40 : decode cX6_nonterminalsIn 40 = .ok (.ireturn, 1) := by decide +kernel
set_option maxHeartbeats 4000000 in
set_option maxRecDepth 100000 in
theorem wX6_nonterminalsIn_4 {X : jC} {tc : jTC} (C : jx X cX6_nonterminalsIn 4 RX6 (some .int) tc ({ frames := 1, cells := 0, slots := 0, locals := 21 } : Room)) (p0 : Int32) (k2 : (Int32 → Option (Int32))) (hk2 : ∀ (v12 : Int32), jo X 4 (0, 0) (jQI0 X []) (k2 v12) [] 39 [(1, .int v12)] []) (rc5 : Int32 → Int32 → Option (Int32)) (hrc5 : ∀ (v3 : Int32) (v4 : Int32), jo X 4 (0, 0) (jQI0 X []) (rc5 v3 v4) [] 4 [(0, .int p0), (1, .int v3), (2, .int v4)] []) (v3 : Int32) (v4 : Int32) : jo X 4 (0, 0) (jQI0 X []) (bX6_nonterminalsIn_4 p0 k2 rc5 v3 v4) [] 4 [(0, .int p0), (1, .int v3), (2, .int v4)] [] := by
  unfold bX6_nonterminalsIn_4
  refine j_iload C d6_nonterminalsIn_4 2 rfl ?_
  refine j_iload C d6_nonterminalsIn_5 0 rfl ?_
  refine j_callSI0 (As := [.int p0]) C d6_nonterminalsIn_6 ms6_19 (kX6_lengthOf _ _ tc p0) ⟨rfl, rfl, Nat.le_of_ble_eq_true rfl, Nat.le_of_ble_eq_true rfl⟩ rfl [] rfl rfl rfl (Nat.le_of_ble_eq_true rfl) (fun x6 => ?_)
  refine j_icmp_ge C d6_nonterminalsIn_9 ?_ ?_
  · exact j_sub [1] rfl (hk2 _)
  · refine j_iload C d6_nonterminalsIn_12 0 rfl ?_
    refine j_iload C d6_nonterminalsIn_13 2 rfl ?_
    refine j_callSI0 (As := [.int p0, .int v4]) C d6_nonterminalsIn_14 ms6_22 (kX6_symbolOf _ _ tc p0 v4) ⟨rfl, rfl, Nat.le_of_ble_eq_true rfl, Nat.le_of_ble_eq_true rfl⟩ rfl [] rfl rfl rfl (Nat.le_of_ble_eq_true rfl) (fun x7 => ?_)
    refine j_istore C d6_nonterminalsIn_17 (by decide) (lv' := [(3, .int x7), (0, .int p0), (1, .int v3), (2, .int v4)]) rfl ?_
    refine j_iload C d6_nonterminalsIn_18 0 rfl ?_
    refine j_const C d6_nonterminalsIn_19 ?_
    refine j_join 33 (fun v8 => []) (fun v8 => [(0, .int p0), (1, .int v8), (2, .int v4)]) (fun v8 => []) (fun v8 => ?_) (fun k10 hk10 => ?_)
    · refine j_iincN C (fun x9 => [(2, .int x9), (0, .int p0), (1, .int v8)]) d6_nonterminalsIn_33 2 rfl (by decide +kernel) (by decide) (fun _ => rfl) (fun x9 => ?_)
      refine j_goto C d6_nonterminalsIn_36 ?_
      exact j_sub [1, 2, 0] rfl (hrc5 _ _)
    · refine j_icmp_lt C d6_nonterminalsIn_21 ?_ ?_
      · exact j_sub [1, 2, 3] rfl (hk10 _)
      · refine j_iload C d6_nonterminalsIn_24 2 rfl ?_
        refine j_const C d6_nonterminalsIn_25 ?_
        refine j_iload C d6_nonterminalsIn_26 0 rfl ?_
        refine j_const C d6_nonterminalsIn_27 ?_
        refine j_isub C d6_nonterminalsIn_29 ?_
        refine j_ishl C d6_nonterminalsIn_30 ?_
        refine j_ior C d6_nonterminalsIn_31 ?_
        refine j_leti (fun x11 => ?_)
        refine j_istore C d6_nonterminalsIn_32 (by decide) (lv' := [(1, .int x11), (3, .int x7), (0, .int p0), (2, .int v4)]) rfl ?_
        exact j_sub [2, 0, 3] rfl (hk10 _)

set_option maxHeartbeats 4000000 in
set_option maxRecDepth 100000 in
theorem kX6_nonterminalsIn (l : Launch) (D : va_G) (tc : jTC) (N : Nat) (p0 : Int32) : ctI0 l D tc yX6_nonterminalsIn (Cond.code yX6_nonterminalsIn cX6_nonterminalsIn 4 (some .int) :: jtb) ({ frames := 1, cells := 0, slots := 0, locals := 21 } : Room) [.int p0] [] (fX6_nonterminalsIn N p0) := by
  refine ctI0_of (lv0 := [(0, .int p0)]) (by decide +kernel) (Nat.le_of_ble_eq_true rfl) rfl (fun X C => ?_)
  unfold fX6_nonterminalsIn
  refine j_const C d6_nonterminalsIn_0 ?_
  refine j_istore C d6_nonterminalsIn_1 (by decide) (lv' := [(1, .int 0), (0, .int p0)]) rfl ?_
  refine j_const C d6_nonterminalsIn_2 ?_
  refine j_istore C d6_nonterminalsIn_3 (by decide) (lv' := [(2, .int 0), (1, .int 0), (0, .int p0)]) rfl ?_
  refine j_join 39 (fun v1 => []) (fun v1 => [(1, .int v1)]) (fun v1 => []) (fun v1 => ?_) (fun k2 hk2 => ?_)
  · refine j_iload C d6_nonterminalsIn_39 0 rfl ?_
    exact j_iret0 C d6_nonterminalsIn_40
  · exact j_sub [2, 1, 0] rfl (j_loop2 (fun v3 v4 => []) (fun v3 v4 => [(0, .int p0), (1, .int v3), (2, .int v4)]) (fun rc5 hrc5 v3 v4 => wX6_nonterminalsIn_4 C p0 k2 hk2 rc5 hrc5 v3 v4) N _ _)

theorem d6_prefixOf_0 : jdi cX6_prefixOf 0 0 1 := Or.inl ⟨0, by decide +kernel⟩
theorem d6_prefixOf_1 : jd cX6_prefixOf 1 (.invokestatic 15) 3 4 := by decide +kernel
theorem d6_prefixOf_4 : jd cX6_prefixOf 4 (.invokestatic 29) 3 7 := by decide +kernel
theorem d6_prefixOf_7 : jds cX6_prefixOf 7 2 8 := Or.inl ⟨2, by decide +kernel⟩
theorem d6_prefixOf_8 : jdk cX6_prefixOf 8 0 9 := Or.inl ⟨0, by decide +kernel⟩
theorem d6_prefixOf_9 : jds cX6_prefixOf 9 3 10 := Or.inl ⟨3, by decide +kernel⟩
theorem d6_prefixOf_10 : jdi cX6_prefixOf 10 3 11 := Or.inl ⟨3, by decide +kernel⟩
theorem d6_prefixOf_11 : jdi cX6_prefixOf 11 1 12 := Or.inl ⟨1, by decide +kernel⟩
theorem d6_prefixOf_12 : jdb cX6_prefixOf 12 (.if_icmp .ge 19) 19 31 15 := by decide +kernel
theorem d6_prefixOf_15 : jdi cX6_prefixOf 15 2 16 := Or.inl ⟨2, by decide +kernel⟩
theorem d6_prefixOf_16 : jdi cX6_prefixOf 16 0 17 := Or.inl ⟨0, by decide +kernel⟩
theorem d6_prefixOf_17 : jdi cX6_prefixOf 17 3 18 := Or.inl ⟨3, by decide +kernel⟩
theorem d6_prefixOf_18 : jd cX6_prefixOf 18 (.invokestatic 22) 3 21 := by decide +kernel
theorem d6_prefixOf_21 : jd cX6_prefixOf 21 (.invokestatic 26) 3 24 := by decide +kernel
theorem d6_prefixOf_24 : jds cX6_prefixOf 24 2 25 := Or.inl ⟨2, by decide +kernel⟩
theorem d6_prefixOf_25 : jd cX6_prefixOf 25 (.iinc 3 1) 3 28 := by decide +kernel
theorem d6_prefixOf_28 : jdb cX6_prefixOf 28 (.goto (-18)) (-18) 10 31 := by decide +kernel
theorem d6_prefixOf_31 : jdi cX6_prefixOf 31 2 32 := Or.inl ⟨2, by decide +kernel⟩
theorem d6_prefixOf_32 : decode cX6_prefixOf 32 = .ok (.ireturn, 1) := by decide +kernel
set_option maxHeartbeats 4000000 in
set_option maxRecDepth 100000 in
theorem wX6_prefixOf_10 {X : jC} {tc : jTC} (C : jx X cX6_prefixOf 4 RX6 (some .int) tc ({ frames := 2, cells := 0, slots := 0, locals := 42 } : Room)) (p0 : Int32) (p1 : Int32) (k4 : (Int32 → Option (Int32))) (hk4 : ∀ (v11 : Int32), jo X 4 (0, 0) (jQI0 X []) (k4 v11) [] 31 [(2, .int v11)] []) (rc7 : Int32 → Int32 → Option (Int32)) (hrc7 : ∀ (v5 : Int32) (v6 : Int32), jo X 4 (0, 0) (jQI0 X []) (rc7 v5 v6) [] 10 [(0, .int p0), (1, .int p1), (2, .int v5), (3, .int v6)] []) (v5 : Int32) (v6 : Int32) : jo X 4 (0, 0) (jQI0 X []) (bX6_prefixOf_10 p0 p1 k4 rc7 v5 v6) [] 10 [(0, .int p0), (1, .int p1), (2, .int v5), (3, .int v6)] [] := by
  unfold bX6_prefixOf_10
  refine j_iload C d6_prefixOf_10 3 rfl ?_
  refine j_iload C d6_prefixOf_11 1 rfl ?_
  refine j_icmp_ge C d6_prefixOf_12 ?_ ?_
  · exact j_sub [2] rfl (hk4 _)
  · refine j_iload C d6_prefixOf_15 2 rfl ?_
    refine j_iload C d6_prefixOf_16 0 rfl ?_
    refine j_iload C d6_prefixOf_17 3 rfl ?_
    refine j_callSI0 (As := [.int p0, .int v6]) C d6_prefixOf_18 ms6_22 (kX6_symbolOf _ _ tc p0 v6) ⟨rfl, rfl, Nat.le_of_ble_eq_true rfl, Nat.le_of_ble_eq_true rfl⟩ rfl [] rfl rfl rfl (Nat.le_of_ble_eq_true rfl) (fun x8 => ?_)
    refine j_callSI0 (As := [.int v5, .int x8]) C d6_prefixOf_21 ms6_26 (kX6_extended _ _ tc v5 x8) ⟨rfl, rfl, Nat.le_of_ble_eq_true rfl, Nat.le_of_ble_eq_true rfl⟩ rfl [] rfl rfl rfl (Nat.le_of_ble_eq_true rfl) (fun x9 => ?_)
    refine j_istore C d6_prefixOf_24 (by decide) (lv' := [(2, .int x9), (0, .int p0), (1, .int p1), (3, .int v6)]) rfl ?_
    refine j_iincN C (fun x10 => [(3, .int x10), (2, .int x9), (0, .int p0), (1, .int p1)]) d6_prefixOf_25 3 rfl (by decide +kernel) (by decide) (fun _ => rfl) (fun x10 => ?_)
    refine j_goto C d6_prefixOf_28 ?_
    exact j_sub [2, 3, 1, 0] rfl (hrc7 _ _)

set_option maxHeartbeats 4000000 in
set_option maxRecDepth 100000 in
theorem kX6_prefixOf (l : Launch) (D : va_G) (tc : jTC) (N : Nat) (p0 : Int32) (p1 : Int32) : ctI0 l D tc yX6_prefixOf (Cond.code yX6_prefixOf cX6_prefixOf 4 (some .int) :: jtb) ({ frames := 2, cells := 0, slots := 0, locals := 42 } : Room) [.int p0, .int p1] [] (fX6_prefixOf N p0 p1) := by
  refine ctI0_of (lv0 := [(0, .int p0), (1, .int p1)]) (by decide +kernel) (Nat.le_of_ble_eq_true rfl) rfl (fun X C => ?_)
  unfold fX6_prefixOf
  refine j_iload C d6_prefixOf_0 0 rfl ?_
  refine j_callSI0 (As := [.int p0]) C d6_prefixOf_1 ms6_15 (kX6_leftOf _ _ tc p0) ⟨rfl, rfl, Nat.le_of_ble_eq_true rfl, Nat.le_of_ble_eq_true rfl⟩ rfl [] rfl rfl rfl (Nat.le_of_ble_eq_true rfl) (fun x1 => ?_)
  refine j_callSI0 (As := [.int x1]) C d6_prefixOf_4 ms6_29 (kX6_emptyOf _ _ tc x1) ⟨rfl, rfl, Nat.le_of_ble_eq_true rfl, Nat.le_of_ble_eq_true rfl⟩ rfl [] rfl rfl rfl (Nat.le_of_ble_eq_true rfl) (fun x2 => ?_)
  refine j_istore C d6_prefixOf_7 (by decide) (lv' := [(2, .int x2), (0, .int p0), (1, .int p1)]) rfl ?_
  refine j_const C d6_prefixOf_8 ?_
  refine j_istore C d6_prefixOf_9 (by decide) (lv' := [(3, .int 0), (2, .int x2), (0, .int p0), (1, .int p1)]) rfl ?_
  refine j_join 31 (fun v3 => []) (fun v3 => [(2, .int v3)]) (fun v3 => []) (fun v3 => ?_) (fun k4 hk4 => ?_)
  · refine j_iload C d6_prefixOf_31 0 rfl ?_
    exact j_iret0 C d6_prefixOf_32
  · exact j_sub [2, 3, 1, 0] rfl (j_loop2 (fun v5 v6 => []) (fun v5 v6 => [(0, .int p0), (1, .int p1), (2, .int v5), (3, .int v6)]) (fun rc7 hrc7 v5 v6 => wX6_prefixOf_10 C p0 p1 k4 hk4 rc7 hrc7 v5 v6) N _ _)

theorem d6_suffixOf_0 : jdi cX6_suffixOf 0 2 1 := Or.inl ⟨2, by decide +kernel⟩
theorem d6_suffixOf_1 : jd cX6_suffixOf 1 (.invokestatic 29) 3 4 := by decide +kernel
theorem d6_suffixOf_4 : jds cX6_suffixOf 4 3 5 := Or.inl ⟨3, by decide +kernel⟩
theorem d6_suffixOf_5 : jdi cX6_suffixOf 5 1 6 := Or.inl ⟨1, by decide +kernel⟩
theorem d6_suffixOf_6 : jds cX6_suffixOf 6 4 8 := Or.inr (by decide +kernel)
theorem d6_suffixOf_8 : jdi cX6_suffixOf 8 4 10 := Or.inr (by decide +kernel)
theorem d6_suffixOf_10 : jdi cX6_suffixOf 10 0 11 := Or.inl ⟨0, by decide +kernel⟩
theorem d6_suffixOf_11 : jd cX6_suffixOf 11 (.invokestatic 19) 3 14 := by decide +kernel
theorem d6_suffixOf_14 : jdb cX6_suffixOf 14 (.if_icmp .ge 20) 20 34 17 := by decide +kernel
theorem d6_suffixOf_17 : jdi cX6_suffixOf 17 3 18 := Or.inl ⟨3, by decide +kernel⟩
theorem d6_suffixOf_18 : jdi cX6_suffixOf 18 0 19 := Or.inl ⟨0, by decide +kernel⟩
theorem d6_suffixOf_19 : jdi cX6_suffixOf 19 4 21 := Or.inr (by decide +kernel)
theorem d6_suffixOf_21 : jd cX6_suffixOf 21 (.invokestatic 22) 3 24 := by decide +kernel
theorem d6_suffixOf_24 : jd cX6_suffixOf 24 (.invokestatic 26) 3 27 := by decide +kernel
theorem d6_suffixOf_27 : jds cX6_suffixOf 27 3 28 := Or.inl ⟨3, by decide +kernel⟩
theorem d6_suffixOf_28 : jd cX6_suffixOf 28 (.iinc 4 1) 3 31 := by decide +kernel
theorem d6_suffixOf_31 : jdb cX6_suffixOf 31 (.goto (-23)) (-23) 8 34 := by decide +kernel
theorem d6_suffixOf_34 : jdi cX6_suffixOf 34 3 35 := Or.inl ⟨3, by decide +kernel⟩
theorem d6_suffixOf_35 : decode cX6_suffixOf 35 = .ok (.ireturn, 1) := by decide +kernel
set_option maxHeartbeats 4000000 in
set_option maxRecDepth 100000 in
theorem wX6_suffixOf_8 {X : jC} {tc : jTC} (C : jx X cX6_suffixOf 5 RX6 (some .int) tc ({ frames := 2, cells := 0, slots := 0, locals := 42 } : Room)) (p0 : Int32) (k3 : (Int32 → Option (Int32))) (hk3 : ∀ (v11 : Int32), jo X 5 (0, 0) (jQI0 X []) (k3 v11) [] 34 [(3, .int v11)] []) (rc6 : Int32 → Int32 → Option (Int32)) (hrc6 : ∀ (v4 : Int32) (v5 : Int32), jo X 5 (0, 0) (jQI0 X []) (rc6 v4 v5) [] 8 [(0, .int p0), (3, .int v4), (4, .int v5)] []) (v4 : Int32) (v5 : Int32) : jo X 5 (0, 0) (jQI0 X []) (bX6_suffixOf_8 p0 k3 rc6 v4 v5) [] 8 [(0, .int p0), (3, .int v4), (4, .int v5)] [] := by
  unfold bX6_suffixOf_8
  refine j_iload C d6_suffixOf_8 2 rfl ?_
  refine j_iload C d6_suffixOf_10 0 rfl ?_
  refine j_callSI0 (As := [.int p0]) C d6_suffixOf_11 ms6_19 (kX6_lengthOf _ _ tc p0) ⟨rfl, rfl, Nat.le_of_ble_eq_true rfl, Nat.le_of_ble_eq_true rfl⟩ rfl [] rfl rfl rfl (Nat.le_of_ble_eq_true rfl) (fun x7 => ?_)
  refine j_icmp_ge C d6_suffixOf_14 ?_ ?_
  · exact j_sub [1] rfl (hk3 _)
  · refine j_iload C d6_suffixOf_17 1 rfl ?_
    refine j_iload C d6_suffixOf_18 0 rfl ?_
    refine j_iload C d6_suffixOf_19 2 rfl ?_
    refine j_callSI0 (As := [.int p0, .int v5]) C d6_suffixOf_21 ms6_22 (kX6_symbolOf _ _ tc p0 v5) ⟨rfl, rfl, Nat.le_of_ble_eq_true rfl, Nat.le_of_ble_eq_true rfl⟩ rfl [] rfl rfl rfl (Nat.le_of_ble_eq_true rfl) (fun x8 => ?_)
    refine j_callSI0 (As := [.int v4, .int x8]) C d6_suffixOf_24 ms6_26 (kX6_extended _ _ tc v4 x8) ⟨rfl, rfl, Nat.le_of_ble_eq_true rfl, Nat.le_of_ble_eq_true rfl⟩ rfl [] rfl rfl rfl (Nat.le_of_ble_eq_true rfl) (fun x9 => ?_)
    refine j_istore C d6_suffixOf_27 (by decide) (lv' := [(3, .int x9), (0, .int p0), (4, .int v5)]) rfl ?_
    refine j_iincN C (fun x10 => [(4, .int x10), (3, .int x9), (0, .int p0)]) d6_suffixOf_28 2 rfl (by decide +kernel) (by decide) (fun _ => rfl) (fun x10 => ?_)
    refine j_goto C d6_suffixOf_31 ?_
    exact j_sub [2, 1, 0] rfl (hrc6 _ _)

set_option maxHeartbeats 4000000 in
set_option maxRecDepth 100000 in
theorem kX6_suffixOf (l : Launch) (D : va_G) (tc : jTC) (N : Nat) (p0 : Int32) (p1 : Int32) (p2 : Int32) : ctI0 l D tc yX6_suffixOf (Cond.code yX6_suffixOf cX6_suffixOf 5 (some .int) :: jtb) ({ frames := 2, cells := 0, slots := 0, locals := 42 } : Room) [.int p0, .int p1, .int p2] [] (fX6_suffixOf N p0 p1 p2) := by
  refine ctI0_of (lv0 := [(0, .int p0), (1, .int p1), (2, .int p2)]) (by decide +kernel) (Nat.le_of_ble_eq_true rfl) rfl (fun X C => ?_)
  unfold fX6_suffixOf
  refine j_iload C d6_suffixOf_0 2 rfl ?_
  refine j_callSI0 (As := [.int p2]) C d6_suffixOf_1 ms6_29 (kX6_emptyOf _ _ tc p2) ⟨rfl, rfl, Nat.le_of_ble_eq_true rfl, Nat.le_of_ble_eq_true rfl⟩ rfl [] rfl rfl rfl (Nat.le_of_ble_eq_true rfl) (fun x1 => ?_)
  refine j_istore C d6_suffixOf_4 (by decide) (lv' := [(3, .int x1), (0, .int p0), (1, .int p1), (2, .int p2)]) rfl ?_
  refine j_iload C d6_suffixOf_5 2 rfl ?_
  refine j_istore C d6_suffixOf_6 (by decide) (lv' := [(4, .int p1), (3, .int x1), (0, .int p0), (1, .int p1), (2, .int p2)]) rfl ?_
  refine j_join 34 (fun v2 => []) (fun v2 => [(3, .int v2)]) (fun v2 => []) (fun v2 => ?_) (fun k3 hk3 => ?_)
  · refine j_iload C d6_suffixOf_34 0 rfl ?_
    exact j_iret0 C d6_suffixOf_35
  · exact j_sub [2, 1, 0] rfl (j_loop2 (fun v4 v5 => []) (fun v4 v5 => [(0, .int p0), (3, .int v4), (4, .int v5)]) (fun rc6 hrc6 v4 v5 => wX6_suffixOf_8 C p0 k3 hk3 rc6 hrc6 v4 v5) N _ _)

theorem d6_commonPrefix_0 : jdi cX6_commonPrefix 0 0 1 := Or.inl ⟨0, by decide +kernel⟩
theorem d6_commonPrefix_1 : jd cX6_commonPrefix 1 (.invokestatic 19) 3 4 := by decide +kernel
theorem d6_commonPrefix_4 : jdi cX6_commonPrefix 4 1 5 := Or.inl ⟨1, by decide +kernel⟩
theorem d6_commonPrefix_5 : jd cX6_commonPrefix 5 (.invokestatic 19) 3 8 := by decide +kernel
theorem d6_commonPrefix_8 : jd cX6_commonPrefix 8 (.invokestatic 32) 3 11 := by decide +kernel
theorem d6_commonPrefix_11 : jds cX6_commonPrefix 11 2 12 := Or.inl ⟨2, by decide +kernel⟩
theorem d6_commonPrefix_12 : jdk cX6_commonPrefix 12 0 13 := Or.inl ⟨0, by decide +kernel⟩
theorem d6_commonPrefix_13 : jds cX6_commonPrefix 13 3 14 := Or.inl ⟨3, by decide +kernel⟩
theorem d6_commonPrefix_14 : jdi cX6_commonPrefix 14 3 15 := Or.inl ⟨3, by decide +kernel⟩
theorem d6_commonPrefix_15 : jdi cX6_commonPrefix 15 2 16 := Or.inl ⟨2, by decide +kernel⟩
theorem d6_commonPrefix_16 : jdb cX6_commonPrefix 16 (.if_icmp .ge 24) 24 40 19 := by decide +kernel
theorem d6_commonPrefix_19 : jdi cX6_commonPrefix 19 0 20 := Or.inl ⟨0, by decide +kernel⟩
theorem d6_commonPrefix_20 : jdi cX6_commonPrefix 20 3 21 := Or.inl ⟨3, by decide +kernel⟩
theorem d6_commonPrefix_21 : jd cX6_commonPrefix 21 (.invokestatic 22) 3 24 := by decide +kernel
theorem d6_commonPrefix_24 : jdi cX6_commonPrefix 24 1 25 := Or.inl ⟨1, by decide +kernel⟩
theorem d6_commonPrefix_25 : jdi cX6_commonPrefix 25 3 26 := Or.inl ⟨3, by decide +kernel⟩
theorem d6_commonPrefix_26 : jd cX6_commonPrefix 26 (.invokestatic 22) 3 29 := by decide +kernel
theorem d6_commonPrefix_29 : jdb cX6_commonPrefix 29 (.if_icmp .eq 5) 5 34 32 := by decide +kernel
theorem d6_commonPrefix_32 : jdi cX6_commonPrefix 32 3 33 := Or.inl ⟨3, by decide +kernel⟩
theorem d6_commonPrefix_33 : decode cX6_commonPrefix 33 = .ok (.ireturn, 1) := by decide +kernel
theorem d6_commonPrefix_34 : jd cX6_commonPrefix 34 (.iinc 3 1) 3 37 := by decide +kernel
theorem d6_commonPrefix_37 : jdb cX6_commonPrefix 37 (.goto (-23)) (-23) 14 40 := by decide +kernel
theorem d6_commonPrefix_40 : jdi cX6_commonPrefix 40 2 41 := Or.inl ⟨2, by decide +kernel⟩
theorem d6_commonPrefix_41 : decode cX6_commonPrefix 41 = .ok (.ireturn, 1) := by decide +kernel
set_option maxHeartbeats 4000000 in
set_option maxRecDepth 100000 in
theorem wX6_commonPrefix_14 {X : jC} {tc : jTC} (C : jx X cX6_commonPrefix 4 RX6 (some .int) tc ({ frames := 1, cells := 0, slots := 0, locals := 40 } : Room)) (p0 : Int32) (p1 : Int32) (x3 : Int32) (k5 : (Unit → Option (Int32))) (hk5 : ∀ (v11 : Unit), jo X 4 (0, 0) (jQI0 X []) (k5 v11) [] 40 [(2, .int x3)] []) (rc7 : Int32 → Option (Int32)) (hrc7 : ∀ (v6 : Int32), jo X 4 (0, 0) (jQI0 X []) (rc7 v6) [] 14 [(0, .int p0), (1, .int p1), (2, .int x3), (3, .int v6)] []) (v6 : Int32) : jo X 4 (0, 0) (jQI0 X []) (bX6_commonPrefix_14 p0 p1 x3 k5 rc7 v6) [] 14 [(0, .int p0), (1, .int p1), (2, .int x3), (3, .int v6)] [] := by
  unfold bX6_commonPrefix_14
  refine j_iload C d6_commonPrefix_14 3 rfl ?_
  refine j_iload C d6_commonPrefix_15 2 rfl ?_
  refine j_icmp_ge C d6_commonPrefix_16 ?_ ?_
  · exact j_sub [2] rfl (hk5 _)
  · refine j_iload C d6_commonPrefix_19 0 rfl ?_
    refine j_iload C d6_commonPrefix_20 3 rfl ?_
    refine j_callSI0 (As := [.int p0, .int v6]) C d6_commonPrefix_21 ms6_22 (kX6_symbolOf _ _ tc p0 v6) ⟨rfl, rfl, Nat.le_of_ble_eq_true rfl, Nat.le_of_ble_eq_true rfl⟩ rfl [] rfl rfl rfl (Nat.le_of_ble_eq_true rfl) (fun x8 => ?_)
    refine j_iload C d6_commonPrefix_24 1 rfl ?_
    refine j_iload C d6_commonPrefix_25 3 rfl ?_
    refine j_callSI0 (As := [.int p1, .int v6]) C d6_commonPrefix_26 ms6_22 (kX6_symbolOf _ _ tc p1 v6) ⟨rfl, rfl, Nat.le_of_ble_eq_true rfl, Nat.le_of_ble_eq_true rfl⟩ rfl [] rfl rfl rfl (Nat.le_of_ble_eq_true rfl) (fun x9 => ?_)
    refine j_icmp_eq C d6_commonPrefix_29 ?_ ?_
    · refine j_iincN C (fun x10 => [(3, .int x10), (0, .int p0), (1, .int p1), (2, .int x3)]) d6_commonPrefix_34 3 rfl (by decide +kernel) (by decide) (fun _ => rfl) (fun x10 => ?_)
      refine j_goto C d6_commonPrefix_37 ?_
      exact j_sub [1, 2, 3, 0] rfl (hrc7 _)
    · refine j_iload C d6_commonPrefix_32 3 rfl ?_
      exact j_iret0 C d6_commonPrefix_33

set_option maxHeartbeats 4000000 in
set_option maxRecDepth 100000 in
theorem kX6_commonPrefix (l : Launch) (D : va_G) (tc : jTC) (N : Nat) (p0 : Int32) (p1 : Int32) : ctI0 l D tc yX6_commonPrefix (Cond.code yX6_commonPrefix cX6_commonPrefix 4 (some .int) :: jtb) ({ frames := 1, cells := 0, slots := 0, locals := 40 } : Room) [.int p0, .int p1] [] (fX6_commonPrefix N p0 p1) := by
  refine ctI0_of (lv0 := [(0, .int p0), (1, .int p1)]) (by decide +kernel) (Nat.le_of_ble_eq_true rfl) rfl (fun X C => ?_)
  unfold fX6_commonPrefix
  refine j_iload C d6_commonPrefix_0 0 rfl ?_
  refine j_callSI0 (As := [.int p0]) C d6_commonPrefix_1 ms6_19 (kX6_lengthOf _ _ tc p0) ⟨rfl, rfl, Nat.le_of_ble_eq_true rfl, Nat.le_of_ble_eq_true rfl⟩ rfl [] rfl rfl rfl (Nat.le_of_ble_eq_true rfl) (fun x1 => ?_)
  refine j_iload C d6_commonPrefix_4 1 rfl ?_
  refine j_callSI0 (As := [.int p1]) C d6_commonPrefix_5 ms6_19 (kX6_lengthOf _ _ tc p1) ⟨rfl, rfl, Nat.le_of_ble_eq_true rfl, Nat.le_of_ble_eq_true rfl⟩ rfl [] rfl rfl rfl (Nat.le_of_ble_eq_true rfl) (fun x2 => ?_)
  refine j_mmin C d6_commonPrefix_8 kj6_32 rfl ⟨Nat.le_of_ble_eq_true rfl, Nat.le_of_ble_eq_true rfl⟩ (Nat.le_of_ble_eq_true rfl) ?_
  refine j_leti (fun x3 => ?_)
  refine j_istore C d6_commonPrefix_11 (by decide) (lv' := [(2, .int x3), (0, .int p0), (1, .int p1)]) rfl ?_
  refine j_const C d6_commonPrefix_12 ?_
  refine j_istore C d6_commonPrefix_13 (by decide) (lv' := [(3, .int 0), (2, .int x3), (0, .int p0), (1, .int p1)]) rfl ?_
  refine j_join 40 (fun v4 => []) (fun v4 => [(2, .int x3)]) (fun v4 => []) (fun v4 => ?_) (fun k5 hk5 => ?_)
  · refine j_iload C d6_commonPrefix_40 0 rfl ?_
    exact j_iret0 C d6_commonPrefix_41
  · exact j_sub [2, 3, 1, 0] rfl (j_loop (fun v6 => []) (fun v6 => [(0, .int p0), (1, .int p1), (2, .int x3), (3, .int v6)]) (fun rc7 hrc7 v6 => wX6_commonPrefix_14 C p0 p1 x3 k5 hk5 rc7 hrc7 v6) N _)

theorem d6_find_0 : jdk cX6_find 0 0 1 := Or.inl ⟨0, by decide +kernel⟩
theorem d6_find_1 : jds cX6_find 1 2 2 := Or.inl ⟨2, by decide +kernel⟩
theorem d6_find_2 : jdi cX6_find 2 2 3 := Or.inl ⟨2, by decide +kernel⟩
theorem d6_find_3 : jda cX6_find 3 0 4 := Or.inl ⟨0, by decide +kernel⟩
theorem d6_find_4 : jd cX6_find 4 (.getfield 37) 3 7 := by decide +kernel
theorem d6_find_7 : jdb cX6_find 7 (.if_icmp .ge 21) 21 28 10 := by decide +kernel
theorem d6_find_10 : jda cX6_find 10 0 11 := Or.inl ⟨0, by decide +kernel⟩
theorem d6_find_11 : jd cX6_find 11 (.getfield 9) 3 14 := by decide +kernel
theorem d6_find_14 : jdi cX6_find 14 2 15 := Or.inl ⟨2, by decide +kernel⟩
theorem d6_find_15 : jd cX6_find 15 (.iaload) 1 16 := by decide +kernel
theorem d6_find_16 : jdi cX6_find 16 1 17 := Or.inl ⟨1, by decide +kernel⟩
theorem d6_find_17 : jdb cX6_find 17 (.if_icmp .ne 5) 5 22 20 := by decide +kernel
theorem d6_find_20 : jdi cX6_find 20 2 21 := Or.inl ⟨2, by decide +kernel⟩
theorem d6_find_21 : decode cX6_find 21 = .ok (.ireturn, 1) := by decide +kernel
theorem d6_find_22 : jd cX6_find 22 (.iinc 2 1) 3 25 := by decide +kernel
theorem d6_find_25 : jdb cX6_find 25 (.goto (-23)) (-23) 2 28 := by decide +kernel
theorem d6_find_28 : jdk cX6_find 28 (-1) 29 := Or.inl ⟨(-1), by decide +kernel⟩
theorem d6_find_29 : decode cX6_find 29 = .ok (.ireturn, 1) := by decide +kernel
set_option maxHeartbeats 4000000 in
set_option maxRecDepth 100000 in
theorem wX6_find_2 {X : jC} {tc : jTC} (C : jx X cX6_find 3 RX6 (some .int) tc ({ frames := 0, cells := 0, slots := 0, locals := 0 } : Room)) (h_ h_codes : Nat) (p1 : Int32) (c_codes : (Nat → Int32)) (c_count : Int32) (k2 : (Unit → Option (Int32))) (hk2 : ∀ (v7 : Unit), jo X 3 (0, 0) (jQI0 X [(h_, .inr (6, [.ref h_codes, .int c_count])), (h_codes, .inl (tc.1, 24, .inl c_codes))]) (k2 v7) [(h_, .inr (6, [.ref h_codes, .int c_count])), (h_codes, .inl (tc.1, 24, .inl c_codes))] 28 [] []) (rc4 : Int32 → Option (Int32)) (hrc4 : ∀ (v3 : Int32), jo X 3 (0, 0) (jQI0 X [(h_, .inr (6, [.ref h_codes, .int c_count])), (h_codes, .inl (tc.1, 24, .inl c_codes))]) (rc4 v3) [(h_, .inr (6, [.ref h_codes, .int c_count])), (h_codes, .inl (tc.1, 24, .inl c_codes))] 2 [(0, .ref h_), (1, .int p1), (2, .int v3)] []) (v3 : Int32) : jo X 3 (0, 0) (jQI0 X [(h_, .inr (6, [.ref h_codes, .int c_count])), (h_codes, .inl (tc.1, 24, .inl c_codes))]) (bX6_find_2 p1 c_codes c_count k2 rc4 v3) [(h_, .inr (6, [.ref h_codes, .int c_count])), (h_codes, .inl (tc.1, 24, .inl c_codes))] 2 [(0, .ref h_), (1, .int p1), (2, .int v3)] [] := by
  unfold bX6_find_2
  refine j_iload C d6_find_2 2 rfl ?_
  refine j_aload C d6_find_3 0 rfl ?_
  refine j_get C d6_find_4 fl6_37 0 rfl rfl ?_
  refine j_icmp_ge C d6_find_7 ?_ ?_
  · exact j_sub [] rfl (hk2 _)
  · refine j_aload C d6_find_10 0 rfl ?_
    refine j_get C d6_find_11 fl6_9 0 rfl rfl ?_
    refine j_iload C d6_find_14 2 rfl ?_
    refine j_iald C d6_find_15 1 rfl (fun x5 => ?_)
    refine j_iload C d6_find_16 1 rfl ?_
    refine j_icmp_ne C d6_find_17 ?_ ?_
    · refine j_iincN C (fun x6 => [(2, .int x6), (0, .ref h_), (1, .int p1)]) d6_find_22 2 rfl (by decide +kernel) (by decide) (fun _ => rfl) (fun x6 => ?_)
      refine j_goto C d6_find_25 ?_
      exact j_sub [1, 2, 0] rfl (hrc4 _)
    · refine j_iload C d6_find_20 2 rfl ?_
      exact j_iret0 C d6_find_21

set_option maxHeartbeats 4000000 in
set_option maxRecDepth 100000 in
theorem kX6_find (l : Launch) (D : va_G) (tc : jTC) (N : Nat) (h_ h_codes : Nat) (c_codes : (Nat → Int32)) (c_count : Int32) (p1 : Int32) : ctI0 l D tc yX6_find (Cond.code yX6_find cX6_find 3 (some .int) :: jtb) ({ frames := 0, cells := 0, slots := 0, locals := 0 } : Room) [.ref h_, .int p1] [(h_, .inr (6, [.ref h_codes, .int c_count])), (h_codes, .inl (tc.1, 24, .inl c_codes))] (fX6_find N c_codes c_count p1) := by
  refine ctI0_of (lv0 := [(0, .ref h_), (1, .int p1)]) (by decide +kernel) (Nat.le_of_ble_eq_true rfl) rfl (fun X C => ?_)
  unfold fX6_find
  refine j_const C d6_find_0 ?_
  refine j_istore C d6_find_1 (by decide) (lv' := [(2, .int 0), (0, .ref h_), (1, .int p1)]) rfl ?_
  refine j_join 28 (fun v1 => [(h_, .inr (6, [.ref h_codes, .int c_count])), (h_codes, .inl (tc.1, 24, .inl c_codes))]) (fun v1 => []) (fun v1 => []) (fun v1 => ?_) (fun k2 hk2 => ?_)
  · refine j_const C d6_find_28 ?_
    exact j_iret0 C d6_find_29
  · exact j_sub [1, 2, 0] rfl (j_loop (fun v3 => [(h_, .inr (6, [.ref h_codes, .int c_count])), (h_codes, .inl (tc.1, 24, .inl c_codes))]) (fun v3 => [(0, .ref h_), (1, .int p1), (2, .int v3)]) (fun rc4 hrc4 v3 => wX6_find_2 C h_ h_codes p1 c_codes c_count k2 hk2 rc4 hrc4 v3) N _)

theorem d6_add_0 : jda cX6_add 0 0 1 := Or.inl ⟨0, by decide +kernel⟩
theorem d6_add_1 : jd cX6_add 1 (.getfield 37) 3 4 := by decide +kernel
theorem d6_add_4 : jdk cX6_add 4 24 6 := Or.inr (Or.inl ⟨24, by decide +kernel⟩)
theorem d6_add_6 : jdb cX6_add 6 (.if_icmp .ge 23) 23 29 9 := by decide +kernel
theorem d6_add_9 : jda cX6_add 9 0 10 := Or.inl ⟨0, by decide +kernel⟩
theorem d6_add_10 : jd cX6_add 10 (.getfield 9) 3 13 := by decide +kernel
theorem d6_add_13 : jda cX6_add 13 0 14 := Or.inl ⟨0, by decide +kernel⟩
theorem d6_add_14 : jd cX6_add 14 (.getfield 37) 3 17 := by decide +kernel
theorem d6_add_17 : jdi cX6_add 17 1 18 := Or.inl ⟨1, by decide +kernel⟩
theorem d6_add_18 : jd cX6_add 18 (.iastore) 1 19 := by decide +kernel
theorem d6_add_19 : jda cX6_add 19 0 20 := Or.inl ⟨0, by decide +kernel⟩
theorem d6_add_20 : jd cX6_add 20 (.dup) 1 21 := by decide +kernel
theorem d6_add_21 : jd cX6_add 21 (.getfield 37) 3 24 := by decide +kernel
theorem d6_add_24 : jdk cX6_add 24 1 25 := Or.inl ⟨1, by decide +kernel⟩
theorem d6_add_25 : jd cX6_add 25 (.iadd) 1 26 := by decide +kernel
theorem d6_add_26 : jd cX6_add 26 (.putfield 37) 3 29 := by decide +kernel
theorem d6_add_29 : decode cX6_add 29 = .ok (.return_, 1) := by decide +kernel
set_option maxHeartbeats 4000000 in
set_option maxRecDepth 100000 in
theorem kX6_add (l : Launch) (D : va_G) (tc : jTC) (h_ h_codes : Nat) (c_codes : (Nat → Int32)) (c_count : Int32) (p1 : Int32) : ctV l D tc yX6_add (Cond.code yX6_add cX6_add 2 none :: jtb) ({ frames := 0, cells := 0, slots := 0, locals := 0 } : Room) [.ref h_, .int p1] [(h_, .inr (6, [.ref h_codes, .int c_count])), (h_codes, .inl (tc.1, 24, .inl c_codes))] (fX6_add c_codes c_count p1) (fun (u : (Nat → Int32) × Int32) => [(h_, .inr (6, [.ref h_codes, .int u.2])), (h_codes, .inl (tc.1, 24, .inl u.1))]) := by
  refine ctV_of (lv0 := [(0, .ref h_), (1, .int p1)]) (by decide +kernel) (Nat.le_of_ble_eq_true rfl) rfl (fun X C => ?_)
  unfold fX6_add
  refine j_aload C d6_add_0 0 rfl ?_
  refine j_get C d6_add_1 fl6_37 0 rfl rfl ?_
  refine j_const C d6_add_4 ?_
  refine j_join2 29 (fun v1 v2 => [(h_, .inr (6, [.ref h_codes, .int v2])), (h_codes, .inl (tc.1, 24, .inl v1))]) (fun v1 v2 => []) (fun v1 v2 => []) (fun v1 v2 => ?_) (fun k3 hk3 => ?_)
  · exact j_vret C d6_add_29 rfl
  · refine j_icmp_ge C d6_add_6 ?_ ?_
    · exact j_sub [] rfl (hk3 _ _)
    · refine j_aload C d6_add_9 0 rfl ?_
      refine j_get C d6_add_10 fl6_9 0 rfl rfl ?_
      refine j_aload C d6_add_13 0 rfl ?_
      refine j_get C d6_add_14 fl6_37 0 rfl rfl ?_
      refine j_iload C d6_add_17 1 rfl ?_
      refine j_iast C (fun f4 => [(h_, .inr (6, [.ref h_codes, .int c_count])), (h_codes, .inl (tc.1, 24, .inl f4))]) d6_add_18 1 rfl (fun _ => rfl) (fun f4 => ?_)
      refine j_aload C d6_add_19 0 rfl ?_
      refine j_dup C d6_add_20 rfl ?_
      refine j_get C d6_add_21 fl6_37 0 rfl rfl ?_
      refine j_const C d6_add_24 ?_
      refine j_iadd C d6_add_25 ?_
      refine j_leti (fun x5 => ?_)
      refine j_putq C d6_add_26 fq6_37 0 rfl rfl rfl (Nat.le_of_ble_eq_true rfl) (ws' := [(h_, .inr (6, [.ref h_codes, .int x5])), (h_codes, .inl (tc.1, 24, .inl f4))]) rfl ?_
      exact j_sub [] rfl (hk3 _ _)

theorem d6_removeAt_0 : jdi cX6_removeAt 0 1 1 := Or.inl ⟨1, by decide +kernel⟩
theorem d6_removeAt_1 : jdk cX6_removeAt 1 1 2 := Or.inl ⟨1, by decide +kernel⟩
theorem d6_removeAt_2 : jd cX6_removeAt 2 (.iadd) 1 3 := by decide +kernel
theorem d6_removeAt_3 : jds cX6_removeAt 3 2 4 := Or.inl ⟨2, by decide +kernel⟩
theorem d6_removeAt_4 : jdi cX6_removeAt 4 2 5 := Or.inl ⟨2, by decide +kernel⟩
theorem d6_removeAt_5 : jda cX6_removeAt 5 0 6 := Or.inl ⟨0, by decide +kernel⟩
theorem d6_removeAt_6 : jd cX6_removeAt 6 (.getfield 37) 3 9 := by decide +kernel
theorem d6_removeAt_9 : jdb cX6_removeAt 9 (.if_icmp .ge 23) 23 32 12 := by decide +kernel
theorem d6_removeAt_12 : jda cX6_removeAt 12 0 13 := Or.inl ⟨0, by decide +kernel⟩
theorem d6_removeAt_13 : jd cX6_removeAt 13 (.getfield 9) 3 16 := by decide +kernel
theorem d6_removeAt_16 : jdi cX6_removeAt 16 2 17 := Or.inl ⟨2, by decide +kernel⟩
theorem d6_removeAt_17 : jdk cX6_removeAt 17 1 18 := Or.inl ⟨1, by decide +kernel⟩
theorem d6_removeAt_18 : jd cX6_removeAt 18 (.isub) 1 19 := by decide +kernel
theorem d6_removeAt_19 : jda cX6_removeAt 19 0 20 := Or.inl ⟨0, by decide +kernel⟩
theorem d6_removeAt_20 : jd cX6_removeAt 20 (.getfield 9) 3 23 := by decide +kernel
theorem d6_removeAt_23 : jdi cX6_removeAt 23 2 24 := Or.inl ⟨2, by decide +kernel⟩
theorem d6_removeAt_24 : jd cX6_removeAt 24 (.iaload) 1 25 := by decide +kernel
theorem d6_removeAt_25 : jd cX6_removeAt 25 (.iastore) 1 26 := by decide +kernel
theorem d6_removeAt_26 : jd cX6_removeAt 26 (.iinc 2 1) 3 29 := by decide +kernel
theorem d6_removeAt_29 : jdb cX6_removeAt 29 (.goto (-25)) (-25) 4 32 := by decide +kernel
theorem d6_removeAt_32 : jda cX6_removeAt 32 0 33 := Or.inl ⟨0, by decide +kernel⟩
theorem d6_removeAt_33 : jd cX6_removeAt 33 (.dup) 1 34 := by decide +kernel
theorem d6_removeAt_34 : jd cX6_removeAt 34 (.getfield 37) 3 37 := by decide +kernel
theorem d6_removeAt_37 : jdk cX6_removeAt 37 1 38 := Or.inl ⟨1, by decide +kernel⟩
theorem d6_removeAt_38 : jd cX6_removeAt 38 (.isub) 1 39 := by decide +kernel
theorem d6_removeAt_39 : jd cX6_removeAt 39 (.putfield 37) 3 42 := by decide +kernel
theorem d6_removeAt_42 : decode cX6_removeAt 42 = .ok (.return_, 1) := by decide +kernel
set_option maxHeartbeats 4000000 in
set_option maxRecDepth 100000 in
theorem wX6_removeAt_4 {X : jC} {tc : jTC} (C : jx X cX6_removeAt 3 RX6 none tc ({ frames := 0, cells := 0, slots := 0, locals := 0 } : Room)) (h_ h_codes : Nat) (c_count : Int32) (k4 : ((Nat → Int32) → Option ((Nat → Int32) × Int32))) (hk4 : ∀ (v11 : (Nat → Int32)), jo X 3 (0, 0) (jQV X (fun (u : (Nat → Int32) × Int32) => [(h_, .inr (6, [.ref h_codes, .int u.2])), (h_codes, .inl (tc.1, 24, .inl u.1))])) (k4 v11) [(h_, .inr (6, [.ref h_codes, .int c_count])), (h_codes, .inl (tc.1, 24, .inl v11))] 32 [(0, .ref h_)] []) (rc7 : Int32 → (Nat → Int32) → Option ((Nat → Int32) × Int32)) (hrc7 : ∀ (v5 : Int32) (v6 : (Nat → Int32)), jo X 3 (0, 0) (jQV X (fun (u : (Nat → Int32) × Int32) => [(h_, .inr (6, [.ref h_codes, .int u.2])), (h_codes, .inl (tc.1, 24, .inl u.1))])) (rc7 v5 v6) [(h_, .inr (6, [.ref h_codes, .int c_count])), (h_codes, .inl (tc.1, 24, .inl v6))] 4 [(0, .ref h_), (2, .int v5)] []) (v5 : Int32) (v6 : (Nat → Int32)) : jo X 3 (0, 0) (jQV X (fun (u : (Nat → Int32) × Int32) => [(h_, .inr (6, [.ref h_codes, .int u.2])), (h_codes, .inl (tc.1, 24, .inl u.1))])) (bX6_removeAt_4 c_count k4 rc7 v5 v6) [(h_, .inr (6, [.ref h_codes, .int c_count])), (h_codes, .inl (tc.1, 24, .inl v6))] 4 [(0, .ref h_), (2, .int v5)] [] := by
  unfold bX6_removeAt_4
  refine j_iload C d6_removeAt_4 1 rfl ?_
  refine j_aload C d6_removeAt_5 0 rfl ?_
  refine j_get C d6_removeAt_6 fl6_37 0 rfl rfl ?_
  refine j_icmp_ge C d6_removeAt_9 ?_ ?_
  · exact j_sub [0] rfl (hk4 _)
  · refine j_aload C d6_removeAt_12 0 rfl ?_
    refine j_get C d6_removeAt_13 fl6_9 0 rfl rfl ?_
    refine j_iload C d6_removeAt_16 1 rfl ?_
    refine j_const C d6_removeAt_17 ?_
    refine j_isub C d6_removeAt_18 ?_
    refine j_aload C d6_removeAt_19 0 rfl ?_
    refine j_get C d6_removeAt_20 fl6_9 0 rfl rfl ?_
    refine j_iload C d6_removeAt_23 1 rfl ?_
    refine j_iald C d6_removeAt_24 1 rfl (fun x8 => ?_)
    refine j_iast C (fun f9 => [(h_, .inr (6, [.ref h_codes, .int c_count])), (h_codes, .inl (tc.1, 24, .inl f9))]) d6_removeAt_25 1 rfl (fun _ => rfl) (fun f9 => ?_)
    refine j_iincN C (fun x10 => [(2, .int x10), (0, .ref h_)]) d6_removeAt_26 1 rfl (by decide +kernel) (by decide) (fun _ => rfl) (fun x10 => ?_)
    refine j_goto C d6_removeAt_29 ?_
    exact j_sub [1, 0] rfl (hrc7 _ _)

set_option maxHeartbeats 4000000 in
set_option maxRecDepth 100000 in
theorem kX6_removeAt (l : Launch) (D : va_G) (tc : jTC) (N : Nat) (h_ h_codes : Nat) (c_codes : (Nat → Int32)) (c_count : Int32) (p1 : Int32) : ctV l D tc yX6_removeAt (Cond.code yX6_removeAt cX6_removeAt 3 none :: jtb) ({ frames := 0, cells := 0, slots := 0, locals := 0 } : Room) [.ref h_, .int p1] [(h_, .inr (6, [.ref h_codes, .int c_count])), (h_codes, .inl (tc.1, 24, .inl c_codes))] (fX6_removeAt N c_codes c_count p1) (fun (u : (Nat → Int32) × Int32) => [(h_, .inr (6, [.ref h_codes, .int u.2])), (h_codes, .inl (tc.1, 24, .inl u.1))]) := by
  refine ctV_of (lv0 := [(0, .ref h_), (1, .int p1)]) (by decide +kernel) (Nat.le_of_ble_eq_true rfl) rfl (fun X C => ?_)
  unfold fX6_removeAt
  refine j_iload C d6_removeAt_0 1 rfl ?_
  refine j_const C d6_removeAt_1 ?_
  refine j_iadd C d6_removeAt_2 ?_
  refine j_leti (fun x1 => ?_)
  refine j_istore C d6_removeAt_3 (by decide) (lv' := [(2, .int x1), (0, .ref h_), (1, .int p1)]) rfl ?_
  refine j_join 32 (fun v2 => [(h_, .inr (6, [.ref h_codes, .int c_count])), (h_codes, .inl (tc.1, 24, .inl v2))]) (fun v2 => [(0, .ref h_)]) (fun v2 => []) (fun v2 => ?_) (fun k4 hk4 => ?_)
  · refine j_aload C d6_removeAt_32 0 rfl ?_
    refine j_dup C d6_removeAt_33 rfl ?_
    refine j_get C d6_removeAt_34 fl6_37 0 rfl rfl ?_
    refine j_const C d6_removeAt_37 ?_
    refine j_isub C d6_removeAt_38 ?_
    refine j_leti (fun x3 => ?_)
    refine j_putq C d6_removeAt_39 fq6_37 0 rfl rfl rfl (Nat.le_of_ble_eq_true rfl) (ws' := [(h_, .inr (6, [.ref h_codes, .int x3])), (h_codes, .inl (tc.1, 24, .inl v2))]) rfl ?_
    exact j_vret C d6_removeAt_42 rfl
  · exact j_sub [1, 0] rfl (j_loop2 (fun v5 v6 => [(h_, .inr (6, [.ref h_codes, .int c_count])), (h_codes, .inl (tc.1, 24, .inl v6))]) (fun v5 v6 => [(0, .ref h_), (2, .int v5)]) (fun rc7 hrc7 v5 v6 => wX6_removeAt_4 C h_ h_codes c_count k4 hk4 rc7 hrc7 v5 v6) N _ _)

theorem d6_removeAll_0 : jda cX6_removeAll 0 0 1 := Or.inl ⟨0, by decide +kernel⟩
theorem d6_removeAll_1 : jdk cX6_removeAll 1 0 2 := Or.inl ⟨0, by decide +kernel⟩
theorem d6_removeAll_2 : jd cX6_removeAll 2 (.putfield 37) 3 5 := by decide +kernel
theorem d6_removeAll_5 : decode cX6_removeAll 5 = .ok (.return_, 1) := by decide +kernel
set_option maxHeartbeats 4000000 in
set_option maxRecDepth 100000 in
theorem kX6_removeAll (l : Launch) (D : va_G) (tc : jTC) (h_ : Nat) (g_codes : Value) (c_count : Int32) : ctV l D tc yX6_removeAll (Cond.code yX6_removeAll cX6_removeAll 1 none :: jtb) ({ frames := 0, cells := 0, slots := 0, locals := 0 } : Room) [.ref h_] [(h_, .inr (6, [g_codes, .int c_count]))] (fX6_removeAll c_count) (fun (u : Int32) => [(h_, .inr (6, [g_codes, .int u]))]) := by
  refine ctV_of (lv0 := [(0, .ref h_)]) (by decide +kernel) (Nat.le_of_ble_eq_true rfl) rfl (fun X C => ?_)
  unfold fX6_removeAll
  refine j_aload C d6_removeAll_0 0 rfl ?_
  refine j_const C d6_removeAll_1 ?_
  refine j_putq C d6_removeAll_2 fq6_37 0 rfl rfl rfl (Nat.le_of_ble_eq_true rfl) (ws' := [(h_, .inr (6, [g_codes, .int 0]))]) rfl ?_
  exact j_vret C d6_removeAll_5 rfl

theorem d6_recursiveOf_0 : jdk cX6_recursiveOf 0 0 1 := Or.inl ⟨0, by decide +kernel⟩
theorem d6_recursiveOf_1 : jds cX6_recursiveOf 1 2 2 := Or.inl ⟨2, by decide +kernel⟩
theorem d6_recursiveOf_2 : jdk cX6_recursiveOf 2 0 3 := Or.inl ⟨0, by decide +kernel⟩
theorem d6_recursiveOf_3 : jds cX6_recursiveOf 3 3 4 := Or.inl ⟨3, by decide +kernel⟩
theorem d6_recursiveOf_4 : jdi cX6_recursiveOf 4 3 5 := Or.inl ⟨3, by decide +kernel⟩
theorem d6_recursiveOf_5 : jda cX6_recursiveOf 5 0 6 := Or.inl ⟨0, by decide +kernel⟩
theorem d6_recursiveOf_6 : jd cX6_recursiveOf 6 (.getfield 37) 3 9 := by decide +kernel
theorem d6_recursiveOf_9 : jdb cX6_recursiveOf 9 (.if_icmp .ge 37) 37 46 12 := by decide +kernel
theorem d6_recursiveOf_12 : jda cX6_recursiveOf 12 0 13 := Or.inl ⟨0, by decide +kernel⟩
theorem d6_recursiveOf_13 : jd cX6_recursiveOf 13 (.getfield 9) 3 16 := by decide +kernel
theorem d6_recursiveOf_16 : jdi cX6_recursiveOf 16 3 17 := Or.inl ⟨3, by decide +kernel⟩
theorem d6_recursiveOf_17 : jd cX6_recursiveOf 17 (.iaload) 1 18 := by decide +kernel
theorem d6_recursiveOf_18 : jdi cX6_recursiveOf 18 1 19 := Or.inl ⟨1, by decide +kernel⟩
theorem d6_recursiveOf_19 : jd cX6_recursiveOf 19 (.invokestatic 47) 3 22 := by decide +kernel
theorem d6_recursiveOf_22 : jdb cX6_recursiveOf 22 (.ifCond .eq 18) 18 40 25 := by decide +kernel
theorem d6_recursiveOf_25 : jda cX6_recursiveOf 25 0 26 := Or.inl ⟨0, by decide +kernel⟩
theorem d6_recursiveOf_26 : jd cX6_recursiveOf 26 (.getfield 9) 3 29 := by decide +kernel
theorem d6_recursiveOf_29 : jdi cX6_recursiveOf 29 3 30 := Or.inl ⟨3, by decide +kernel⟩
theorem d6_recursiveOf_30 : jd cX6_recursiveOf 30 (.iaload) 1 31 := by decide +kernel
theorem d6_recursiveOf_31 : jd cX6_recursiveOf 31 (.invokestatic 51) 3 34 := by decide +kernel
theorem d6_recursiveOf_34 : jdb cX6_recursiveOf 34 (.ifCond .eq 6) 6 40 37 := by decide +kernel
theorem d6_recursiveOf_37 : jd cX6_recursiveOf 37 (.iinc 2 1) 3 40 := by decide +kernel
theorem d6_recursiveOf_40 : jd cX6_recursiveOf 40 (.iinc 3 1) 3 43 := by decide +kernel
theorem d6_recursiveOf_43 : jdb cX6_recursiveOf 43 (.goto (-39)) (-39) 4 46 := by decide +kernel
theorem d6_recursiveOf_46 : jdi cX6_recursiveOf 46 2 47 := Or.inl ⟨2, by decide +kernel⟩
theorem d6_recursiveOf_47 : decode cX6_recursiveOf 47 = .ok (.ireturn, 1) := by decide +kernel
set_option maxHeartbeats 4000000 in
set_option maxRecDepth 100000 in
theorem wX6_recursiveOf_4 {X : jC} {tc : jTC} (C : jx X cX6_recursiveOf 4 RX6 (some .int) tc ({ frames := 2, cells := 0, slots := 0, locals := 41 } : Room)) (h_ h_codes : Nat) (p1 : Int32) (c_codes : (Nat → Int32)) (c_count : Int32) (k2 : (Int32 → Option (Int32))) (hk2 : ∀ (v14 : Int32), jo X 4 (0, 0) (jQI0 X [(h_, .inr (6, [.ref h_codes, .int c_count])), (h_codes, .inl (tc.1, 24, .inl c_codes))]) (k2 v14) [(h_, .inr (6, [.ref h_codes, .int c_count])), (h_codes, .inl (tc.1, 24, .inl c_codes))] 46 [(2, .int v14)] []) (rc5 : Int32 → Int32 → Option (Int32)) (hrc5 : ∀ (v3 : Int32) (v4 : Int32), jo X 4 (0, 0) (jQI0 X [(h_, .inr (6, [.ref h_codes, .int c_count])), (h_codes, .inl (tc.1, 24, .inl c_codes))]) (rc5 v3 v4) [(h_, .inr (6, [.ref h_codes, .int c_count])), (h_codes, .inl (tc.1, 24, .inl c_codes))] 4 [(0, .ref h_), (1, .int p1), (2, .int v3), (3, .int v4)] []) (v3 : Int32) (v4 : Int32) : jo X 4 (0, 0) (jQI0 X [(h_, .inr (6, [.ref h_codes, .int c_count])), (h_codes, .inl (tc.1, 24, .inl c_codes))]) (bX6_recursiveOf_4 p1 c_codes c_count k2 rc5 v3 v4) [(h_, .inr (6, [.ref h_codes, .int c_count])), (h_codes, .inl (tc.1, 24, .inl c_codes))] 4 [(0, .ref h_), (1, .int p1), (2, .int v3), (3, .int v4)] [] := by
  unfold bX6_recursiveOf_4
  refine j_iload C d6_recursiveOf_4 3 rfl ?_
  refine j_aload C d6_recursiveOf_5 0 rfl ?_
  refine j_get C d6_recursiveOf_6 fl6_37 0 rfl rfl ?_
  refine j_icmp_ge C d6_recursiveOf_9 ?_ ?_
  · exact j_sub [2] rfl (hk2 _)
  · refine j_aload C d6_recursiveOf_12 0 rfl ?_
    refine j_get C d6_recursiveOf_13 fl6_9 0 rfl rfl ?_
    refine j_iload C d6_recursiveOf_16 3 rfl ?_
    refine j_iald C d6_recursiveOf_17 1 rfl (fun x6 => ?_)
    refine j_iload C d6_recursiveOf_18 1 rfl ?_
    refine j_callSI0 (As := [.int x6, .int p1]) C d6_recursiveOf_19 ms6_47 (kX6_isOf _ _ tc x6 p1) ⟨rfl, rfl, Nat.le_of_ble_eq_true rfl, Nat.le_of_ble_eq_true rfl⟩ rfl [] rfl rfl rfl (Nat.le_of_ble_eq_true rfl) (fun x7 => ?_)
    refine j_join 40 (fun v8 => [(h_, .inr (6, [.ref h_codes, .int c_count])), (h_codes, .inl (tc.1, 24, .inl c_codes))]) (fun v8 => [(0, .ref h_), (1, .int p1), (2, .int v8), (3, .int v4)]) (fun v8 => []) (fun v8 => ?_) (fun k10 hk10 => ?_)
    · refine j_iincN C (fun x9 => [(3, .int x9), (0, .ref h_), (1, .int p1), (2, .int v8)]) d6_recursiveOf_40 3 rfl (by decide +kernel) (by decide) (fun _ => rfl) (fun x9 => ?_)
      refine j_goto C d6_recursiveOf_43 ?_
      exact j_sub [1, 2, 3, 0] rfl (hrc5 _ _)
    · refine j_if_eq C d6_recursiveOf_22 ?_ ?_
      · exact hk10 _
      · refine j_aload C d6_recursiveOf_25 0 rfl ?_
        refine j_get C d6_recursiveOf_26 fl6_9 0 rfl rfl ?_
        refine j_iload C d6_recursiveOf_29 3 rfl ?_
        refine j_iald C d6_recursiveOf_30 1 rfl (fun x11 => ?_)
        refine j_callSI0 (As := [.int x11]) C d6_recursiveOf_31 ms6_51 (kX6_isRecursive _ _ tc x11) ⟨rfl, rfl, Nat.le_of_ble_eq_true rfl, Nat.le_of_ble_eq_true rfl⟩ rfl [] rfl rfl rfl (Nat.le_of_ble_eq_true rfl) (fun x12 => ?_)
        refine j_if_eq C d6_recursiveOf_34 ?_ ?_
        · exact hk10 _
        · refine j_iincN C (fun x13 => [(2, .int x13), (0, .ref h_), (1, .int p1), (3, .int v4)]) d6_recursiveOf_37 2 rfl (by decide +kernel) (by decide) (fun _ => rfl) (fun x13 => ?_)
          exact j_sub [1, 2, 0, 3] rfl (hk10 _)

set_option maxHeartbeats 4000000 in
set_option maxRecDepth 100000 in
theorem kX6_recursiveOf (l : Launch) (D : va_G) (tc : jTC) (N : Nat) (h_ h_codes : Nat) (c_codes : (Nat → Int32)) (c_count : Int32) (p1 : Int32) : ctI0 l D tc yX6_recursiveOf (Cond.code yX6_recursiveOf cX6_recursiveOf 4 (some .int) :: jtb) ({ frames := 2, cells := 0, slots := 0, locals := 41 } : Room) [.ref h_, .int p1] [(h_, .inr (6, [.ref h_codes, .int c_count])), (h_codes, .inl (tc.1, 24, .inl c_codes))] (fX6_recursiveOf N c_codes c_count p1) := by
  refine ctI0_of (lv0 := [(0, .ref h_), (1, .int p1)]) (by decide +kernel) (Nat.le_of_ble_eq_true rfl) rfl (fun X C => ?_)
  unfold fX6_recursiveOf
  refine j_const C d6_recursiveOf_0 ?_
  refine j_istore C d6_recursiveOf_1 (by decide) (lv' := [(2, .int 0), (0, .ref h_), (1, .int p1)]) rfl ?_
  refine j_const C d6_recursiveOf_2 ?_
  refine j_istore C d6_recursiveOf_3 (by decide) (lv' := [(3, .int 0), (2, .int 0), (0, .ref h_), (1, .int p1)]) rfl ?_
  refine j_join 46 (fun v1 => [(h_, .inr (6, [.ref h_codes, .int c_count])), (h_codes, .inl (tc.1, 24, .inl c_codes))]) (fun v1 => [(2, .int v1)]) (fun v1 => []) (fun v1 => ?_) (fun k2 hk2 => ?_)
  · refine j_iload C d6_recursiveOf_46 0 rfl ?_
    exact j_iret0 C d6_recursiveOf_47
  · exact j_sub [2, 3, 1, 0] rfl (j_loop2 (fun v3 v4 => [(h_, .inr (6, [.ref h_codes, .int c_count])), (h_codes, .inl (tc.1, 24, .inl c_codes))]) (fun v3 v4 => [(0, .ref h_), (1, .int p1), (2, .int v3), (3, .int v4)]) (fun rc5 hrc5 v3 v4 => wX6_recursiveOf_4 C h_ h_codes p1 c_codes c_count k2 hk2 rc5 hrc5 v3 v4) N _ _)

