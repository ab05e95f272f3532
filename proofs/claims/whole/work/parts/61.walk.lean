theorem d0_findStarting_0 : jda cX0_findStarting 0 0 1 := Or.inl ⟨0, by decide +kernel⟩
theorem d0_findStarting_1 : jdk cX0_findStarting 1 18 3 := Or.inr (Or.inl ⟨18, by decide +kernel⟩)
theorem d0_findStarting_3 : jd cX0_findStarting 3 (.invokevirtual 58) 3 6 := by decide +kernel
theorem d0_findStarting_6 : jdi cX0_findStarting 6 1 7 := Or.inl ⟨1, by decide +kernel⟩
theorem d0_findStarting_7 : jdk cX0_findStarting 7 8 9 := Or.inr (Or.inl ⟨8, by decide +kernel⟩)
theorem d0_findStarting_9 : jdb cX0_findStarting 9 (.if_icmp .eq 16) 16 25 12 := by decide +kernel
theorem d0_findStarting_12 : jda cX0_findStarting 12 0 13 := Or.inl ⟨0, by decide +kernel⟩
theorem d0_findStarting_13 : jd cX0_findStarting 13 (.getfield 16) 3 16 := by decide +kernel
theorem d0_findStarting_16 : jdk cX0_findStarting 16 18 18 := Or.inr (Or.inl ⟨18, by decide +kernel⟩)
theorem d0_findStarting_18 : jdi cX0_findStarting 18 1 19 := Or.inl ⟨1, by decide +kernel⟩
theorem d0_findStarting_19 : jd cX0_findStarting 19 (.iadd) 1 20 := by decide +kernel
theorem d0_findStarting_20 : jdi cX0_findStarting 20 1 21 := Or.inl ⟨1, by decide +kernel⟩
theorem d0_findStarting_21 : jdk cX0_findStarting 21 0 22 := Or.inl ⟨0, by decide +kernel⟩
theorem d0_findStarting_22 : jd cX0_findStarting 22 (.invokevirtual 61) 3 25 := by decide +kernel
theorem d0_findStarting_25 : jdk cX0_findStarting 25 1 26 := Or.inl ⟨1, by decide +kernel⟩
theorem d0_findStarting_26 : jds cX0_findStarting 26 2 27 := Or.inl ⟨2, by decide +kernel⟩
theorem d0_findStarting_27 : jdk cX0_findStarting 27 0 28 := Or.inl ⟨0, by decide +kernel⟩
theorem d0_findStarting_28 : jds cX0_findStarting 28 3 29 := Or.inl ⟨3, by decide +kernel⟩
theorem d0_findStarting_29 : jdi cX0_findStarting 29 3 30 := Or.inl ⟨3, by decide +kernel⟩
theorem d0_findStarting_30 : jdk cX0_findStarting 30 1000 33 := Or.inr (Or.inr ⟨1000, by decide +kernel⟩)
theorem d0_findStarting_33 : jdb cX0_findStarting 33 (.if_icmp .ge 77) 77 110 36 := by decide +kernel
theorem d0_findStarting_36 : jdi cX0_findStarting 36 2 37 := Or.inl ⟨2, by decide +kernel⟩
theorem d0_findStarting_37 : jdb cX0_findStarting 37 (.ifCond .eq 73) 73 110 40 := by decide +kernel
theorem d0_findStarting_40 : jdk cX0_findStarting 40 0 41 := Or.inl ⟨0, by decide +kernel⟩
theorem d0_findStarting_41 : jds cX0_findStarting 41 2 42 := Or.inl ⟨2, by decide +kernel⟩
theorem d0_findStarting_42 : jdk cX0_findStarting 42 0 43 := Or.inl ⟨0, by decide +kernel⟩
theorem d0_findStarting_43 : jds cX0_findStarting 43 4 45 := Or.inr (by decide +kernel)
theorem d0_findStarting_45 : jdi cX0_findStarting 45 4 47 := Or.inr (by decide +kernel)
theorem d0_findStarting_47 : jda cX0_findStarting 47 0 48 := Or.inl ⟨0, by decide +kernel⟩
theorem d0_findStarting_48 : jd cX0_findStarting 48 (.getfield 24) 3 51 := by decide +kernel
theorem d0_findStarting_51 : jd cX0_findStarting 51 (.getfield 65) 3 54 := by decide +kernel
theorem d0_findStarting_54 : jdb cX0_findStarting 54 (.if_icmp .ge 50) 50 104 57 := by decide +kernel
theorem d0_findStarting_57 : jda cX0_findStarting 57 0 58 := Or.inl ⟨0, by decide +kernel⟩
theorem d0_findStarting_58 : jdi cX0_findStarting 58 4 60 := Or.inr (by decide +kernel)
theorem d0_findStarting_60 : jd cX0_findStarting 60 (.invokevirtual 98) 3 63 := by decide +kernel
theorem d0_findStarting_63 : jda cX0_findStarting 63 0 64 := Or.inl ⟨0, by decide +kernel⟩
theorem d0_findStarting_64 : jd cX0_findStarting 64 (.getfield 16) 3 67 := by decide +kernel
theorem d0_findStarting_67 : jdk cX0_findStarting 67 18 69 := Or.inr (Or.inl ⟨18, by decide +kernel⟩)
theorem d0_findStarting_69 : jda cX0_findStarting 69 0 70 := Or.inl ⟨0, by decide +kernel⟩
theorem d0_findStarting_70 : jdi cX0_findStarting 70 4 72 := Or.inr (by decide +kernel)
theorem d0_findStarting_72 : jd cX0_findStarting 72 (.invokevirtual 71) 3 75 := by decide +kernel
theorem d0_findStarting_75 : jd cX0_findStarting 75 (.iadd) 1 76 := by decide +kernel
theorem d0_findStarting_76 : jdi cX0_findStarting 76 4 78 := Or.inr (by decide +kernel)
theorem d0_findStarting_78 : jdk cX0_findStarting 78 0 79 := Or.inl ⟨0, by decide +kernel⟩
theorem d0_findStarting_79 : jd cX0_findStarting 79 (.invokestatic 101) 3 82 := by decide +kernel
theorem d0_findStarting_82 : jd cX0_findStarting 82 (.invokevirtual 78) 3 85 := by decide +kernel
theorem d0_findStarting_85 : jdb cX0_findStarting 85 (.ifCond .ne 7) 7 92 88 := by decide +kernel
theorem d0_findStarting_88 : jdi cX0_findStarting 88 2 89 := Or.inl ⟨2, by decide +kernel⟩
theorem d0_findStarting_89 : jdb cX0_findStarting 89 (.ifCond .eq 7) 7 96 92 := by decide +kernel
theorem d0_findStarting_92 : jdk cX0_findStarting 92 1 93 := Or.inl ⟨1, by decide +kernel⟩
theorem d0_findStarting_93 : jdb cX0_findStarting 93 (.goto 4) 4 97 96 := by decide +kernel
theorem d0_findStarting_96 : jdk cX0_findStarting 96 0 97 := Or.inl ⟨0, by decide +kernel⟩
theorem d0_findStarting_97 : jds cX0_findStarting 97 2 98 := Or.inl ⟨2, by decide +kernel⟩
theorem d0_findStarting_98 : jd cX0_findStarting 98 (.iinc 4 1) 3 101 := by decide +kernel
theorem d0_findStarting_101 : jdb cX0_findStarting 101 (.goto (-56)) (-56) 45 104 := by decide +kernel
theorem d0_findStarting_104 : jd cX0_findStarting 104 (.iinc 3 1) 3 107 := by decide +kernel
theorem d0_findStarting_107 : jdb cX0_findStarting 107 (.goto (-78)) (-78) 29 110 := by decide +kernel
theorem d0_findStarting_110 : decode cX0_findStarting 110 = .ok (.return_, 1) := by decide +kernel
set_option maxHeartbeats 4000000 in
set_option maxRecDepth 100000 in
theorem wX0_findStarting_45 {X : jC} {tc : jTC} (C : jx X cX0_findStarting 5 RX0 none tc ({ frames := 3, cells := 0, slots := 0, locals := 74 } : Room)) (N : Nat) (h_ h_rules h_rules_codes h_words h_words_costs h_words_highs h_words_lows : Nat) (g_plainKnown g_exampleKey : Value) (c_rules_codes : (Nat → Int32)) (c_rules_count : Int32) (v12 : Int32) (k22 : (Int32 → (Nat → Int32) → (Nat → Int64) → (Nat → Int64) → Option ((Nat → Int32) × (Nat → Int64) × (Nat → Int64)))) (hk22 : ∀ (v43 : Int32) (v44 : (Nat → Int32)) (v45 : (Nat → Int64)) (v46 : (Nat → Int64)), jo X 5 (0, 0) (jQV X (fun (u : (Nat → Int32) × (Nat → Int64) × (Nat → Int64)) => [(h_, .inr (0, [.ref h_rules, .ref h_words, g_plainKnown, g_exampleKey])), (h_rules, .inr (6, [.ref h_rules_codes, .int c_rules_count])), (h_rules_codes, .inl (tc.1, 24, .inl c_rules_codes)), (h_words, .inr (10, [.ref h_words_costs, .ref h_words_highs, .ref h_words_lows])), (h_words_costs, .inl (tc.1, 362, .inl u.1)), (h_words_highs, .inl (tc.2.1, 362, .inr (.inl u.2.1))), (h_words_lows, .inl (tc.2.1, 362, .inr (.inl u.2.2)))])) (k22 v43 v44 v45 v46) [(h_, .inr (0, [.ref h_rules, .ref h_words, g_plainKnown, g_exampleKey])), (h_rules, .inr (6, [.ref h_rules_codes, .int c_rules_count])), (h_rules_codes, .inl (tc.1, 24, .inl c_rules_codes)), (h_words, .inr (10, [.ref h_words_costs, .ref h_words_highs, .ref h_words_lows])), (h_words_costs, .inl (tc.1, 362, .inl v44)), (h_words_highs, .inl (tc.2.1, 362, .inr (.inl v45))), (h_words_lows, .inl (tc.2.1, 362, .inr (.inl v46)))] 104 [(0, .ref h_), (2, .int v43), (3, .int v12)] []) (rc28 : Int32 → Int32 → (Nat → Int32) → (Nat → Int64) → (Nat → Int64) → Option ((Nat → Int32) × (Nat → Int64) × (Nat → Int64))) (hrc28 : ∀ (v23 : Int32) (v24 : Int32) (v25 : (Nat → Int32)) (v26 : (Nat → Int64)) (v27 : (Nat → Int64)), jo X 5 (0, 0) (jQV X (fun (u : (Nat → Int32) × (Nat → Int64) × (Nat → Int64)) => [(h_, .inr (0, [.ref h_rules, .ref h_words, g_plainKnown, g_exampleKey])), (h_rules, .inr (6, [.ref h_rules_codes, .int c_rules_count])), (h_rules_codes, .inl (tc.1, 24, .inl c_rules_codes)), (h_words, .inr (10, [.ref h_words_costs, .ref h_words_highs, .ref h_words_lows])), (h_words_costs, .inl (tc.1, 362, .inl u.1)), (h_words_highs, .inl (tc.2.1, 362, .inr (.inl u.2.1))), (h_words_lows, .inl (tc.2.1, 362, .inr (.inl u.2.2)))])) (rc28 v23 v24 v25 v26 v27) [(h_, .inr (0, [.ref h_rules, .ref h_words, g_plainKnown, g_exampleKey])), (h_rules, .inr (6, [.ref h_rules_codes, .int c_rules_count])), (h_rules_codes, .inl (tc.1, 24, .inl c_rules_codes)), (h_words, .inr (10, [.ref h_words_costs, .ref h_words_highs, .ref h_words_lows])), (h_words_costs, .inl (tc.1, 362, .inl v25)), (h_words_highs, .inl (tc.2.1, 362, .inr (.inl v26))), (h_words_lows, .inl (tc.2.1, 362, .inr (.inl v27)))] 45 [(0, .ref h_), (2, .int v23), (3, .int v12), (4, .int v24)] []) (v23 : Int32) (v24 : Int32) (v25 : (Nat → Int32)) (v26 : (Nat → Int64)) (v27 : (Nat → Int64)) : jo X 5 (0, 0) (jQV X (fun (u : (Nat → Int32) × (Nat → Int64) × (Nat → Int64)) => [(h_, .inr (0, [.ref h_rules, .ref h_words, g_plainKnown, g_exampleKey])), (h_rules, .inr (6, [.ref h_rules_codes, .int c_rules_count])), (h_rules_codes, .inl (tc.1, 24, .inl c_rules_codes)), (h_words, .inr (10, [.ref h_words_costs, .ref h_words_highs, .ref h_words_lows])), (h_words_costs, .inl (tc.1, 362, .inl u.1)), (h_words_highs, .inl (tc.2.1, 362, .inr (.inl u.2.1))), (h_words_lows, .inl (tc.2.1, 362, .inr (.inl u.2.2)))])) (bX0_findStarting_45 N c_rules_codes c_rules_count k22 rc28 v23 v24 v25 v26 v27) [(h_, .inr (0, [.ref h_rules, .ref h_words, g_plainKnown, g_exampleKey])), (h_rules, .inr (6, [.ref h_rules_codes, .int c_rules_count])), (h_rules_codes, .inl (tc.1, 24, .inl c_rules_codes)), (h_words, .inr (10, [.ref h_words_costs, .ref h_words_highs, .ref h_words_lows])), (h_words_costs, .inl (tc.1, 362, .inl v25)), (h_words_highs, .inl (tc.2.1, 362, .inr (.inl v26))), (h_words_lows, .inl (tc.2.1, 362, .inr (.inl v27)))] 45 [(0, .ref h_), (2, .int v23), (3, .int v12), (4, .int v24)] [] := by
  unfold bX0_findStarting_45
  refine j_iload C d0_findStarting_45 3 rfl ?_
  refine j_aload C d0_findStarting_47 0 rfl ?_
  refine j_get C d0_findStarting_48 fl0_24 0 rfl rfl ?_
  refine j_get C d0_findStarting_51 fl0_65 1 rfl rfl ?_
  refine j_icmp_ge C d0_findStarting_54 ?_ ?_
  · exact j_sub [0, 1, 2] rfl (hk22 _ _ _ _)
  · refine j_aload C d0_findStarting_57 0 rfl ?_
    refine j_iload C d0_findStarting_58 3 rfl ?_
    refine j_callVV3 (As := [.int v24]) C d0_findStarting_60 mv0_98 (kX0_putStartingTails _ _ tc N h_ h_rules h_rules_codes h_words h_words_costs h_words_highs h_words_lows g_plainKnown g_exampleKey (.int c_rules_count) c_rules_codes v25 v26 v27 v24) ⟨rfl, rfl, Nat.le_of_ble_eq_true rfl, Nat.le_of_ble_eq_true rfl⟩ rfl 0 rfl [0, 1, 2, 3, 4, 5, 6] rfl rfl rfl (Nat.le_of_ble_eq_true rfl) (fun o29 o30 o31 => [(h_, .inr (0, [.ref h_rules, .ref h_words, g_plainKnown, g_exampleKey])), (h_rules, .inr (6, [.ref h_rules_codes, .int c_rules_count])), (h_rules_codes, .inl (tc.1, 24, .inl c_rules_codes)), (h_words, .inr (10, [.ref h_words_costs, .ref h_words_highs, .ref h_words_lows])), (h_words_costs, .inl (tc.1, 362, .inl o29)), (h_words_highs, .inl (tc.2.1, 362, .inr (.inl o30))), (h_words_lows, .inl (tc.2.1, 362, .inr (.inl o31)))]) [(true, 0), (true, 1), (true, 2), (true, 3), (true, 4), (true, 5), (true, 6)] (fun _ => rfl) (by decide +kernel) (fun o29 o30 o31 => ?_)
    refine j_aload C d0_findStarting_63 0 rfl ?_
    refine j_get C d0_findStarting_64 fl0_16 0 rfl rfl ?_
    refine j_const C d0_findStarting_67 ?_
    refine j_aload C d0_findStarting_69 0 rfl ?_
    refine j_iload C d0_findStarting_70 3 rfl ?_
    refine j_callVI0 (As := [.int v24]) C d0_findStarting_72 mv0_71 (kX0_leftSymbol _ _ tc h_ h_rules h_rules_codes (.ref h_words) g_plainKnown g_exampleKey (.int c_rules_count) c_rules_codes v24) ⟨rfl, rfl, Nat.le_of_ble_eq_true rfl, Nat.le_of_ble_eq_true rfl⟩ rfl 0 rfl [0, 1, 2] rfl rfl rfl (Nat.le_of_ble_eq_true rfl) (fun x32 => ?_)
    refine j_iadd C d0_findStarting_75 ?_
    refine j_iload C d0_findStarting_76 3 rfl ?_
    refine j_const C d0_findStarting_78 ?_
    refine j_callSI0 (As := [.int v24, .int 0]) C d0_findStarting_79 ms0_101 (kX0_startingTail _ _ tc v24 0) ⟨rfl, rfl, Nat.le_of_ble_eq_true rfl, Nat.le_of_ble_eq_true rfl⟩ rfl [] rfl rfl rfl (Nat.le_of_ble_eq_true rfl) (fun x33 => ?_)
    refine j_callVI4 (As := [.int ((18 : Int32) + x32), .int x33]) C d0_findStarting_82 mv0_78 (kX10_lower _ _ tc 362 h_words h_words_costs h_words_highs h_words_lows o29 o30 o31 ((18 : Int32) + x32) x33) ⟨rfl, rfl, Nat.le_of_ble_eq_true rfl, Nat.le_of_ble_eq_true rfl⟩ rfl 3 rfl [3, 4, 5, 6] rfl rfl rfl (Nat.le_of_ble_eq_true rfl) (fun o34 o35 o36 => [(h_, .inr (0, [.ref h_rules, .ref h_words, g_plainKnown, g_exampleKey])), (h_rules, .inr (6, [.ref h_rules_codes, .int c_rules_count])), (h_rules_codes, .inl (tc.1, 24, .inl c_rules_codes)), (h_words, .inr (10, [.ref h_words_costs, .ref h_words_highs, .ref h_words_lows])), (h_words_costs, .inl (tc.1, 362, .inl o34)), (h_words_highs, .inl (tc.2.1, 362, .inr (.inl o35))), (h_words_lows, .inl (tc.2.1, 362, .inr (.inl o36)))]) [(false, 0), (false, 1), (false, 2), (true, 0), (true, 1), (true, 2), (true, 3)] (fun _ => rfl) (by decide +kernel) (fun o37 o34 o35 o36 => ?_)
    refine j_join 97 (fun v38 => [(h_, .inr (0, [.ref h_rules, .ref h_words, g_plainKnown, g_exampleKey])), (h_rules, .inr (6, [.ref h_rules_codes, .int c_rules_count])), (h_rules_codes, .inl (tc.1, 24, .inl c_rules_codes)), (h_words, .inr (10, [.ref h_words_costs, .ref h_words_highs, .ref h_words_lows])), (h_words_costs, .inl (tc.1, 362, .inl o34)), (h_words_highs, .inl (tc.2.1, 362, .inr (.inl o35))), (h_words_lows, .inl (tc.2.1, 362, .inr (.inl o36)))]) (fun v38 => [(0, .ref h_), (3, .int v12), (4, .int v24)]) (fun v38 => [.int v38]) (fun v38 => ?_) (fun k40 hk40 => ?_)
    · refine j_istore C d0_findStarting_97 (by decide) (lv' := [(2, .int v38), (0, .ref h_), (3, .int v12), (4, .int v24)]) rfl ?_
      refine j_iincN C (fun x39 => [(4, .int x39), (2, .int v38), (0, .ref h_), (3, .int v12)]) d0_findStarting_98 3 rfl (by decide +kernel) (by decide) (fun _ => rfl) (fun x39 => ?_)
      refine j_goto C d0_findStarting_101 ?_
      exact j_sub [2, 1, 3, 0] rfl (hrc28 _ _ _ _ _)
    · refine j_join 92 (fun v41 => [(h_, .inr (0, [.ref h_rules, .ref h_words, g_plainKnown, g_exampleKey])), (h_rules, .inr (6, [.ref h_rules_codes, .int c_rules_count])), (h_rules_codes, .inl (tc.1, 24, .inl c_rules_codes)), (h_words, .inr (10, [.ref h_words_costs, .ref h_words_highs, .ref h_words_lows])), (h_words_costs, .inl (tc.1, 362, .inl o34)), (h_words_highs, .inl (tc.2.1, 362, .inr (.inl o35))), (h_words_lows, .inl (tc.2.1, 362, .inr (.inl o36)))]) (fun v41 => [(0, .ref h_), (3, .int v12), (4, .int v24)]) (fun v41 => []) (fun v41 => ?_) (fun k42 hk42 => ?_)
      · refine j_const C d0_findStarting_92 ?_
        refine j_goto C d0_findStarting_93 ?_
        exact hk40 _
      · refine j_if_ne C d0_findStarting_85 ?_ ?_
        · exact j_sub [0, 2, 3] rfl (hk42 _)
        · refine j_iload C d0_findStarting_88 1 rfl ?_
          refine j_if_eq C d0_findStarting_89 ?_ ?_
          · refine j_const C d0_findStarting_96 ?_
            exact j_sub [0, 2, 3] rfl (hk40 _)
          · exact j_sub [0, 2, 3] rfl (hk42 _)

set_option maxHeartbeats 4000000 in
set_option maxRecDepth 100000 in
theorem wX0_findStarting_29 {X : jC} {tc : jTC} (C : jx X cX0_findStarting 5 RX0 none tc ({ frames := 3, cells := 0, slots := 0, locals := 74 } : Room)) (N : Nat) (h_ h_rules h_rules_codes h_words h_words_costs h_words_highs h_words_lows : Nat) (g_plainKnown g_exampleKey : Value) (c_rules_codes : (Nat → Int32)) (c_rules_count : Int32) (k10 : ((Nat → Int32) → (Nat → Int64) → (Nat → Int64) → Option ((Nat → Int32) × (Nat → Int64) × (Nat → Int64)))) (hk10 : ∀ (v47 : (Nat → Int32)) (v48 : (Nat → Int64)) (v49 : (Nat → Int64)), jo X 5 (0, 0) (jQV X (fun (u : (Nat → Int32) × (Nat → Int64) × (Nat → Int64)) => [(h_, .inr (0, [.ref h_rules, .ref h_words, g_plainKnown, g_exampleKey])), (h_rules, .inr (6, [.ref h_rules_codes, .int c_rules_count])), (h_rules_codes, .inl (tc.1, 24, .inl c_rules_codes)), (h_words, .inr (10, [.ref h_words_costs, .ref h_words_highs, .ref h_words_lows])), (h_words_costs, .inl (tc.1, 362, .inl u.1)), (h_words_highs, .inl (tc.2.1, 362, .inr (.inl u.2.1))), (h_words_lows, .inl (tc.2.1, 362, .inr (.inl u.2.2)))])) (k10 v47 v48 v49) [(h_, .inr (0, [.ref h_rules, .ref h_words, g_plainKnown, g_exampleKey])), (h_rules, .inr (6, [.ref h_rules_codes, .int c_rules_count])), (h_rules_codes, .inl (tc.1, 24, .inl c_rules_codes)), (h_words, .inr (10, [.ref h_words_costs, .ref h_words_highs, .ref h_words_lows])), (h_words_costs, .inl (tc.1, 362, .inl v47)), (h_words_highs, .inl (tc.2.1, 362, .inr (.inl v48))), (h_words_lows, .inl (tc.2.1, 362, .inr (.inl v49)))] 110 [] []) (rc16 : Int32 → Int32 → (Nat → Int32) → (Nat → Int64) → (Nat → Int64) → Option ((Nat → Int32) × (Nat → Int64) × (Nat → Int64))) (hrc16 : ∀ (v11 : Int32) (v12 : Int32) (v13 : (Nat → Int32)) (v14 : (Nat → Int64)) (v15 : (Nat → Int64)), jo X 5 (0, 0) (jQV X (fun (u : (Nat → Int32) × (Nat → Int64) × (Nat → Int64)) => [(h_, .inr (0, [.ref h_rules, .ref h_words, g_plainKnown, g_exampleKey])), (h_rules, .inr (6, [.ref h_rules_codes, .int c_rules_count])), (h_rules_codes, .inl (tc.1, 24, .inl c_rules_codes)), (h_words, .inr (10, [.ref h_words_costs, .ref h_words_highs, .ref h_words_lows])), (h_words_costs, .inl (tc.1, 362, .inl u.1)), (h_words_highs, .inl (tc.2.1, 362, .inr (.inl u.2.1))), (h_words_lows, .inl (tc.2.1, 362, .inr (.inl u.2.2)))])) (rc16 v11 v12 v13 v14 v15) [(h_, .inr (0, [.ref h_rules, .ref h_words, g_plainKnown, g_exampleKey])), (h_rules, .inr (6, [.ref h_rules_codes, .int c_rules_count])), (h_rules_codes, .inl (tc.1, 24, .inl c_rules_codes)), (h_words, .inr (10, [.ref h_words_costs, .ref h_words_highs, .ref h_words_lows])), (h_words_costs, .inl (tc.1, 362, .inl v13)), (h_words_highs, .inl (tc.2.1, 362, .inr (.inl v14))), (h_words_lows, .inl (tc.2.1, 362, .inr (.inl v15)))] 29 [(0, .ref h_), (2, .int v11), (3, .int v12)] []) (v11 : Int32) (v12 : Int32) (v13 : (Nat → Int32)) (v14 : (Nat → Int64)) (v15 : (Nat → Int64)) : jo X 5 (0, 0) (jQV X (fun (u : (Nat → Int32) × (Nat → Int64) × (Nat → Int64)) => [(h_, .inr (0, [.ref h_rules, .ref h_words, g_plainKnown, g_exampleKey])), (h_rules, .inr (6, [.ref h_rules_codes, .int c_rules_count])), (h_rules_codes, .inl (tc.1, 24, .inl c_rules_codes)), (h_words, .inr (10, [.ref h_words_costs, .ref h_words_highs, .ref h_words_lows])), (h_words_costs, .inl (tc.1, 362, .inl u.1)), (h_words_highs, .inl (tc.2.1, 362, .inr (.inl u.2.1))), (h_words_lows, .inl (tc.2.1, 362, .inr (.inl u.2.2)))])) (bX0_findStarting_29 N c_rules_codes c_rules_count k10 rc16 v11 v12 v13 v14 v15) [(h_, .inr (0, [.ref h_rules, .ref h_words, g_plainKnown, g_exampleKey])), (h_rules, .inr (6, [.ref h_rules_codes, .int c_rules_count])), (h_rules_codes, .inl (tc.1, 24, .inl c_rules_codes)), (h_words, .inr (10, [.ref h_words_costs, .ref h_words_highs, .ref h_words_lows])), (h_words_costs, .inl (tc.1, 362, .inl v13)), (h_words_highs, .inl (tc.2.1, 362, .inr (.inl v14))), (h_words_lows, .inl (tc.2.1, 362, .inr (.inl v15)))] 29 [(0, .ref h_), (2, .int v11), (3, .int v12)] [] := by
  unfold bX0_findStarting_29
  refine j_iload C d0_findStarting_29 2 rfl ?_
  refine j_const C d0_findStarting_30 ?_
  refine j_icmp_ge C d0_findStarting_33 ?_ ?_
  · exact j_sub [] rfl (hk10 _ _ _)
  · refine j_iload C d0_findStarting_36 1 rfl ?_
    refine j_if_eq C d0_findStarting_37 ?_ ?_
    · exact j_sub [] rfl (hk10 _ _ _)
    · refine j_const C d0_findStarting_40 ?_
      refine j_istore C d0_findStarting_41 (by decide) (lv' := [(2, .int 0), (0, .ref h_), (3, .int v12)]) rfl ?_
      refine j_const C d0_findStarting_42 ?_
      refine j_istore C d0_findStarting_43 (by decide) (lv' := [(4, .int 0), (2, .int 0), (0, .ref h_), (3, .int v12)]) rfl ?_
      refine j_join4 104 (fun v17 v18 v19 v20 => [(h_, .inr (0, [.ref h_rules, .ref h_words, g_plainKnown, g_exampleKey])), (h_rules, .inr (6, [.ref h_rules_codes, .int c_rules_count])), (h_rules_codes, .inl (tc.1, 24, .inl c_rules_codes)), (h_words, .inr (10, [.ref h_words_costs, .ref h_words_highs, .ref h_words_lows])), (h_words_costs, .inl (tc.1, 362, .inl v18)), (h_words_highs, .inl (tc.2.1, 362, .inr (.inl v19))), (h_words_lows, .inl (tc.2.1, 362, .inr (.inl v20)))]) (fun v17 v18 v19 v20 => [(0, .ref h_), (2, .int v17), (3, .int v12)]) (fun v17 v18 v19 v20 => []) (fun v17 v18 v19 v20 => ?_) (fun k22 hk22 => ?_)
      · refine j_iincN C (fun x21 => [(3, .int x21), (0, .ref h_), (2, .int v17)]) d0_findStarting_104 2 rfl (by decide +kernel) (by decide) (fun _ => rfl) (fun x21 => ?_)
        refine j_goto C d0_findStarting_107 ?_
        exact j_sub [1, 2, 0] rfl (hrc16 _ _ _ _ _)
      · exact j_sub [2, 1, 3, 0] rfl (j_loop5 (fun v23 v24 v25 v26 v27 => [(h_, .inr (0, [.ref h_rules, .ref h_words, g_plainKnown, g_exampleKey])), (h_rules, .inr (6, [.ref h_rules_codes, .int c_rules_count])), (h_rules_codes, .inl (tc.1, 24, .inl c_rules_codes)), (h_words, .inr (10, [.ref h_words_costs, .ref h_words_highs, .ref h_words_lows])), (h_words_costs, .inl (tc.1, 362, .inl v25)), (h_words_highs, .inl (tc.2.1, 362, .inr (.inl v26))), (h_words_lows, .inl (tc.2.1, 362, .inr (.inl v27)))]) (fun v23 v24 v25 v26 v27 => [(0, .ref h_), (2, .int v23), (3, .int v12), (4, .int v24)]) (fun rc28 hrc28 v23 v24 v25 v26 v27 => wX0_findStarting_45 C N h_ h_rules h_rules_codes h_words h_words_costs h_words_highs h_words_lows g_plainKnown g_exampleKey c_rules_codes c_rules_count v12 k22 hk22 rc28 hrc28 v23 v24 v25 v26 v27) N _ _ _ _ _)

set_option maxHeartbeats 4000000 in
set_option maxRecDepth 100000 in
theorem kX0_findStarting (l : Launch) (D : va_G) (tc : jTC) (N : Nat) (h_ h_rules h_rules_codes h_words h_words_costs h_words_highs h_words_lows : Nat) (g_plainKnown g_exampleKey : Value) (c_rules_codes : (Nat → Int32)) (c_rules_count : Int32) (c_words_costs : (Nat → Int32)) (c_words_highs : (Nat → Int64)) (c_words_lows : (Nat → Int64)) (p1 : Int32) : ctV l D tc yX0_findStarting (Cond.code yX0_findStarting cX0_findStarting 5 none :: jtb) ({ frames := 3, cells := 0, slots := 0, locals := 74 } : Room) [.ref h_, .int p1] [(h_, .inr (0, [.ref h_rules, .ref h_words, g_plainKnown, g_exampleKey])), (h_rules, .inr (6, [.ref h_rules_codes, .int c_rules_count])), (h_rules_codes, .inl (tc.1, 24, .inl c_rules_codes)), (h_words, .inr (10, [.ref h_words_costs, .ref h_words_highs, .ref h_words_lows])), (h_words_costs, .inl (tc.1, 362, .inl c_words_costs)), (h_words_highs, .inl (tc.2.1, 362, .inr (.inl c_words_highs))), (h_words_lows, .inl (tc.2.1, 362, .inr (.inl c_words_lows)))] (fX0_findStarting N c_rules_codes c_rules_count c_words_costs c_words_highs c_words_lows p1) (fun (u : (Nat → Int32) × (Nat → Int64) × (Nat → Int64)) => [(h_, .inr (0, [.ref h_rules, .ref h_words, g_plainKnown, g_exampleKey])), (h_rules, .inr (6, [.ref h_rules_codes, .int c_rules_count])), (h_rules_codes, .inl (tc.1, 24, .inl c_rules_codes)), (h_words, .inr (10, [.ref h_words_costs, .ref h_words_highs, .ref h_words_lows])), (h_words_costs, .inl (tc.1, 362, .inl u.1)), (h_words_highs, .inl (tc.2.1, 362, .inr (.inl u.2.1))), (h_words_lows, .inl (tc.2.1, 362, .inr (.inl u.2.2)))]) := by
  refine ctV_of (lv0 := [(0, .ref h_), (1, .int p1)]) (by decide +kernel) (Nat.le_of_ble_eq_true rfl) rfl (fun X C => ?_)
  unfold fX0_findStarting
  refine j_aload C d0_findStarting_0 0 rfl ?_
  refine j_const C d0_findStarting_1 ?_
  refine j_callVV3 (As := [.int 18]) C d0_findStarting_3 mv0_58 (kX0_forgetKind _ _ tc N h_ h_words h_words_costs h_words_highs h_words_lows (.ref h_rules) g_plainKnown g_exampleKey c_words_costs c_words_highs c_words_lows 18) ⟨rfl, rfl, Nat.le_of_ble_eq_true rfl, Nat.le_of_ble_eq_true rfl⟩ rfl 0 rfl [0, 3, 4, 5, 6] rfl rfl rfl (Nat.le_of_ble_eq_true rfl) (fun o1 o2 o3 => [(h_, .inr (0, [.ref h_rules, .ref h_words, g_plainKnown, g_exampleKey])), (h_rules, .inr (6, [.ref h_rules_codes, .int c_rules_count])), (h_rules_codes, .inl (tc.1, 24, .inl c_rules_codes)), (h_words, .inr (10, [.ref h_words_costs, .ref h_words_highs, .ref h_words_lows])), (h_words_costs, .inl (tc.1, 362, .inl o1)), (h_words_highs, .inl (tc.2.1, 362, .inr (.inl o2))), (h_words_lows, .inl (tc.2.1, 362, .inr (.inl o3)))]) [(true, 0), (false, 1), (false, 2), (true, 1), (true, 2), (true, 3), (true, 4)] (fun _ => rfl) (by decide +kernel) (fun o1 o2 o3 => ?_)
  refine j_iload C d0_findStarting_6 1 rfl ?_
  refine j_const C d0_findStarting_7 ?_
  refine j_join3 25 (fun v4 v5 v6 => [(h_, .inr (0, [.ref h_rules, .ref h_words, g_plainKnown, g_exampleKey])), (h_rules, .inr (6, [.ref h_rules_codes, .int c_rules_count])), (h_rules_codes, .inl (tc.1, 24, .inl c_rules_codes)), (h_words, .inr (10, [.ref h_words_costs, .ref h_words_highs, .ref h_words_lows])), (h_words_costs, .inl (tc.1, 362, .inl v4)), (h_words_highs, .inl (tc.2.1, 362, .inr (.inl v5))), (h_words_lows, .inl (tc.2.1, 362, .inr (.inl v6)))]) (fun v4 v5 v6 => [(0, .ref h_)]) (fun v4 v5 v6 => []) (fun v4 v5 v6 => ?_) (fun k50 hk50 => ?_)
  · refine j_const C d0_findStarting_25 ?_
    refine j_istore C d0_findStarting_26 (by decide) (lv' := [(2, .int 1), (0, .ref h_)]) rfl ?_
    refine j_const C d0_findStarting_27 ?_
    refine j_istore C d0_findStarting_28 (by decide) (lv' := [(3, .int 0), (2, .int 1), (0, .ref h_)]) rfl ?_
    refine j_join3 110 (fun v7 v8 v9 => [(h_, .inr (0, [.ref h_rules, .ref h_words, g_plainKnown, g_exampleKey])), (h_rules, .inr (6, [.ref h_rules_codes, .int c_rules_count])), (h_rules_codes, .inl (tc.1, 24, .inl c_rules_codes)), (h_words, .inr (10, [.ref h_words_costs, .ref h_words_highs, .ref h_words_lows])), (h_words_costs, .inl (tc.1, 362, .inl v7)), (h_words_highs, .inl (tc.2.1, 362, .inr (.inl v8))), (h_words_lows, .inl (tc.2.1, 362, .inr (.inl v9)))]) (fun v7 v8 v9 => []) (fun v7 v8 v9 => []) (fun v7 v8 v9 => ?_) (fun k10 hk10 => ?_)
    · exact j_vret C d0_findStarting_110 rfl
    · exact j_sub [2, 1, 0] rfl (j_loop5 (fun v11 v12 v13 v14 v15 => [(h_, .inr (0, [.ref h_rules, .ref h_words, g_plainKnown, g_exampleKey])), (h_rules, .inr (6, [.ref h_rules_codes, .int c_rules_count])), (h_rules_codes, .inl (tc.1, 24, .inl c_rules_codes)), (h_words, .inr (10, [.ref h_words_costs, .ref h_words_highs, .ref h_words_lows])), (h_words_costs, .inl (tc.1, 362, .inl v13)), (h_words_highs, .inl (tc.2.1, 362, .inr (.inl v14))), (h_words_lows, .inl (tc.2.1, 362, .inr (.inl v15)))]) (fun v11 v12 v13 v14 v15 => [(0, .ref h_), (2, .int v11), (3, .int v12)]) (fun rc16 hrc16 v11 v12 v13 v14 v15 => wX0_findStarting_29 C N h_ h_rules h_rules_codes h_words h_words_costs h_words_highs h_words_lows g_plainKnown g_exampleKey c_rules_codes c_rules_count k10 hk10 rc16 hrc16 v11 v12 v13 v14 v15) N _ _ _ _ _)
  · refine j_icmp_eq C d0_findStarting_9 ?_ ?_
    · exact j_sub [0] rfl (hk50 _ _ _)
    · refine j_aload C d0_findStarting_12 0 rfl ?_
      refine j_get C d0_findStarting_13 fl0_16 0 rfl rfl ?_
      refine j_const C d0_findStarting_16 ?_
      refine j_iload C d0_findStarting_18 1 rfl ?_
      refine j_iadd C d0_findStarting_19 ?_
      refine j_iload C d0_findStarting_20 1 rfl ?_
      refine j_const C d0_findStarting_21 ?_
      refine j_callVV3 (As := [.int ((18 : Int32) + p1), .int p1, .int 0]) C d0_findStarting_22 mv0_61 (kX10_putTerminal _ _ tc 362 h_words h_words_costs h_words_highs h_words_lows o1 o2 o3 ((18 : Int32) + p1) p1 0) ⟨rfl, rfl, Nat.le_of_ble_eq_true rfl, Nat.le_of_ble_eq_true rfl⟩ rfl 3 rfl [3, 4, 5, 6] rfl rfl rfl (Nat.le_of_ble_eq_true rfl) (fun o51 o52 o53 => [(h_, .inr (0, [.ref h_rules, .ref h_words, g_plainKnown, g_exampleKey])), (h_rules, .inr (6, [.ref h_rules_codes, .int c_rules_count])), (h_rules_codes, .inl (tc.1, 24, .inl c_rules_codes)), (h_words, .inr (10, [.ref h_words_costs, .ref h_words_highs, .ref h_words_lows])), (h_words_costs, .inl (tc.1, 362, .inl o51)), (h_words_highs, .inl (tc.2.1, 362, .inr (.inl o52))), (h_words_lows, .inl (tc.2.1, 362, .inr (.inl o53)))]) [(false, 0), (false, 1), (false, 2), (true, 0), (true, 1), (true, 2), (true, 3)] (fun _ => rfl) (by decide +kernel) (fun o51 o52 o53 => ?_)
      exact j_sub [0] rfl (hk50 _ _ _)

theorem d10_exists_0 : jda cX10_exists 0 0 1 := Or.inl ⟨0, by decide +kernel⟩
theorem d10_exists_1 : jd cX10_exists 1 (.getfield 17) 3 4 := by decide +kernel
theorem d10_exists_4 : jdi cX10_exists 4 1 5 := Or.inl ⟨1, by decide +kernel⟩
theorem d10_exists_5 : jd cX10_exists 5 (.iaload) 1 6 := by decide +kernel
theorem d10_exists_6 : jd cX10_exists 6 (.ldc 28) 2 8 := by decide +kernel
theorem d10_exists_8 : jdb cX10_exists 8 (.if_icmp .ge 7) 7 15 11 := by decide +kernel
theorem d10_exists_11 : jdk cX10_exists 11 1 12 := Or.inl ⟨1, by decide +kernel⟩
theorem d10_exists_12 : jdb cX10_exists 12 (.goto 4) 4 16 15 := by decide +kernel
theorem d10_exists_15 : jdk cX10_exists 15 0 16 := Or.inl ⟨0, by decide +kernel⟩
theorem d10_exists_16 : decode cX10_exists 16 = .ok (.ireturn, 1) := by decide +kernel
set_option maxHeartbeats 4000000 in
set_option maxRecDepth 100000 in
theorem kX10_exists (l : Launch) (D : va_G) (tc : jTC) (n : Nat) (h_ h_costs : Nat) (g_highs g_lows : Value) (c_costs : (Nat → Int32)) (p1 : Int32) : ctI0 l D tc yX10_exists (Cond.code yX10_exists cX10_exists 2 (some .boolean) :: jtb) ({ frames := 0, cells := 0, slots := 0, locals := 0 } : Room) [.ref h_, .int p1] [(h_, .inr (10, [.ref h_costs, g_highs, g_lows])), (h_costs, .inl (tc.1, n, .inl c_costs))] (fX10_exists n c_costs p1) := by
  refine ctI0_of (lv0 := [(0, .ref h_), (1, .int p1)]) (by decide +kernel) (Nat.le_of_ble_eq_true rfl) rfl (fun X C => ?_)
  unfold fX10_exists
  refine j_aload C d10_exists_0 0 rfl ?_
  refine j_get C d10_exists_1 fl10_17 0 rfl rfl ?_
  refine j_iload C d10_exists_4 1 rfl ?_
  refine j_iald C d10_exists_5 1 rfl (fun x1 => ?_)
  refine j_ldc C d10_exists_6 kc10_28 ?_
  refine j_join 16 (fun v2 => [(h_, .inr (10, [.ref h_costs, g_highs, g_lows])), (h_costs, .inl (tc.1, n, .inl c_costs))]) (fun v2 => []) (fun v2 => [.int v2]) (fun v2 => ?_) (fun k3 hk3 => ?_)
  · refine j_gz (fun hz => ?_)
    exact j_zret0 C hz d10_exists_16
  · refine j_icmp_ge C d10_exists_8 ?_ ?_
    · refine j_const C d10_exists_15 ?_
      exact j_sub [] rfl (hk3 _)
    · refine j_const C d10_exists_11 ?_
      refine j_goto C d10_exists_12 ?_
      exact j_sub [] rfl (hk3 _)

theorem d0_lowerEnded_0 : jdk cX0_lowerEnded 0 0 1 := Or.inl ⟨0, by decide +kernel⟩
theorem d0_lowerEnded_1 : jds cX0_lowerEnded 1 3 2 := Or.inl ⟨3, by decide +kernel⟩
theorem d0_lowerEnded_2 : jda cX0_lowerEnded 2 0 3 := Or.inl ⟨0, by decide +kernel⟩
theorem d0_lowerEnded_3 : jd cX0_lowerEnded 3 (.getfield 16) 3 6 := by decide +kernel
theorem d0_lowerEnded_6 : jdk cX0_lowerEnded 6 73 8 := Or.inr (Or.inl ⟨73, by decide +kernel⟩)
theorem d0_lowerEnded_8 : jdk cX0_lowerEnded 8 72 10 := Or.inr (Or.inl ⟨72, by decide +kernel⟩)
theorem d0_lowerEnded_10 : jd cX0_lowerEnded 10 (.invokevirtual 91) 3 13 := by decide +kernel
theorem d0_lowerEnded_13 : jda cX0_lowerEnded 13 0 14 := Or.inl ⟨0, by decide +kernel⟩
theorem d0_lowerEnded_14 : jd cX0_lowerEnded 14 (.getfield 16) 3 17 := by decide +kernel
theorem d0_lowerEnded_17 : jdk cX0_lowerEnded 17 73 19 := Or.inr (Or.inl ⟨73, by decide +kernel⟩)
theorem d0_lowerEnded_19 : jdk cX0_lowerEnded 19 36 21 := Or.inr (Or.inl ⟨36, by decide +kernel⟩)
theorem d0_lowerEnded_21 : jda cX0_lowerEnded 21 0 22 := Or.inl ⟨0, by decide +kernel⟩
theorem d0_lowerEnded_22 : jd cX0_lowerEnded 22 (.getfield 24) 3 25 := by decide +kernel
theorem d0_lowerEnded_25 : jd cX0_lowerEnded 25 (.getfield 47) 3 28 := by decide +kernel
theorem d0_lowerEnded_28 : jdi cX0_lowerEnded 28 1 29 := Or.inl ⟨1, by decide +kernel⟩
theorem d0_lowerEnded_29 : jd cX0_lowerEnded 29 (.iaload) 1 30 := by decide +kernel
theorem d0_lowerEnded_30 : jdi cX0_lowerEnded 30 2 31 := Or.inl ⟨2, by decide +kernel⟩
theorem d0_lowerEnded_31 : jd cX0_lowerEnded 31 (.invokestatic 88) 3 34 := by decide +kernel
theorem d0_lowerEnded_34 : jd cX0_lowerEnded 34 (.iadd) 1 35 := by decide +kernel
theorem d0_lowerEnded_35 : jd cX0_lowerEnded 35 (.invokevirtual 95) 3 38 := by decide +kernel
theorem d0_lowerEnded_38 : jda cX0_lowerEnded 38 0 39 := Or.inl ⟨0, by decide +kernel⟩
theorem d0_lowerEnded_39 : jd cX0_lowerEnded 39 (.getfield 16) 3 42 := by decide +kernel
theorem d0_lowerEnded_42 : jdi cX0_lowerEnded 42 1 43 := Or.inl ⟨1, by decide +kernel⟩
theorem d0_lowerEnded_43 : jdi cX0_lowerEnded 43 2 44 := Or.inl ⟨2, by decide +kernel⟩
theorem d0_lowerEnded_44 : jdk cX0_lowerEnded 44 1 45 := Or.inl ⟨1, by decide +kernel⟩
theorem d0_lowerEnded_45 : jd cX0_lowerEnded 45 (.iadd) 1 46 := by decide +kernel
theorem d0_lowerEnded_46 : jd cX0_lowerEnded 46 (.invokestatic 74) 3 49 := by decide +kernel
theorem d0_lowerEnded_49 : jd cX0_lowerEnded 49 (.invokevirtual 104) 3 52 := by decide +kernel
theorem d0_lowerEnded_52 : jdb cX0_lowerEnded 52 (.ifCond .eq 21) 21 73 55 := by decide +kernel
theorem d0_lowerEnded_55 : jda cX0_lowerEnded 55 0 56 := Or.inl ⟨0, by decide +kernel⟩
theorem d0_lowerEnded_56 : jd cX0_lowerEnded 56 (.getfield 16) 3 59 := by decide +kernel
theorem d0_lowerEnded_59 : jdk cX0_lowerEnded 59 36 61 := Or.inr (Or.inl ⟨36, by decide +kernel⟩)
theorem d0_lowerEnded_61 : jda cX0_lowerEnded 61 0 62 := Or.inl ⟨0, by decide +kernel⟩
theorem d0_lowerEnded_62 : jdi cX0_lowerEnded 62 1 63 := Or.inl ⟨1, by decide +kernel⟩
theorem d0_lowerEnded_63 : jd cX0_lowerEnded 63 (.invokevirtual 71) 3 66 := by decide +kernel
theorem d0_lowerEnded_66 : jd cX0_lowerEnded 66 (.iadd) 1 67 := by decide +kernel
theorem d0_lowerEnded_67 : jdk cX0_lowerEnded 67 73 69 := Or.inr (Or.inl ⟨73, by decide +kernel⟩)
theorem d0_lowerEnded_69 : jd cX0_lowerEnded 69 (.invokevirtual 78) 3 72 := by decide +kernel
theorem d0_lowerEnded_72 : jds cX0_lowerEnded 72 3 73 := Or.inl ⟨3, by decide +kernel⟩
theorem d0_lowerEnded_73 : jda cX0_lowerEnded 73 0 74 := Or.inl ⟨0, by decide +kernel⟩
theorem d0_lowerEnded_74 : jd cX0_lowerEnded 74 (.getfield 16) 3 77 := by decide +kernel
theorem d0_lowerEnded_77 : jdk cX0_lowerEnded 77 73 79 := Or.inr (Or.inl ⟨73, by decide +kernel⟩)
theorem d0_lowerEnded_79 : jdi cX0_lowerEnded 79 1 80 := Or.inl ⟨1, by decide +kernel⟩
theorem d0_lowerEnded_80 : jdi cX0_lowerEnded 80 2 81 := Or.inl ⟨2, by decide +kernel⟩
theorem d0_lowerEnded_81 : jdk cX0_lowerEnded 81 1 82 := Or.inl ⟨1, by decide +kernel⟩
theorem d0_lowerEnded_82 : jd cX0_lowerEnded 82 (.iadd) 1 83 := by decide +kernel
theorem d0_lowerEnded_83 : jd cX0_lowerEnded 83 (.invokestatic 101) 3 86 := by decide +kernel
theorem d0_lowerEnded_86 : jd cX0_lowerEnded 86 (.invokevirtual 95) 3 89 := by decide +kernel
theorem d0_lowerEnded_89 : jda cX0_lowerEnded 89 0 90 := Or.inl ⟨0, by decide +kernel⟩
theorem d0_lowerEnded_90 : jd cX0_lowerEnded 90 (.getfield 16) 3 93 := by decide +kernel
theorem d0_lowerEnded_93 : jdk cX0_lowerEnded 93 54 95 := Or.inr (Or.inl ⟨54, by decide +kernel⟩)
theorem d0_lowerEnded_95 : jda cX0_lowerEnded 95 0 96 := Or.inl ⟨0, by decide +kernel⟩
theorem d0_lowerEnded_96 : jdi cX0_lowerEnded 96 1 97 := Or.inl ⟨1, by decide +kernel⟩
theorem d0_lowerEnded_97 : jd cX0_lowerEnded 97 (.invokevirtual 71) 3 100 := by decide +kernel
theorem d0_lowerEnded_100 : jd cX0_lowerEnded 100 (.iadd) 1 101 := by decide +kernel
theorem d0_lowerEnded_101 : jdk cX0_lowerEnded 101 73 103 := Or.inr (Or.inl ⟨73, by decide +kernel⟩)
theorem d0_lowerEnded_103 : jd cX0_lowerEnded 103 (.invokevirtual 78) 3 106 := by decide +kernel
theorem d0_lowerEnded_106 : jdb cX0_lowerEnded 106 (.ifCond .ne 7) 7 113 109 := by decide +kernel
theorem d0_lowerEnded_109 : jdi cX0_lowerEnded 109 3 110 := Or.inl ⟨3, by decide +kernel⟩
theorem d0_lowerEnded_110 : jdb cX0_lowerEnded 110 (.ifCond .eq 7) 7 117 113 := by decide +kernel
theorem d0_lowerEnded_113 : jdk cX0_lowerEnded 113 1 114 := Or.inl ⟨1, by decide +kernel⟩
theorem d0_lowerEnded_114 : jdb cX0_lowerEnded 114 (.goto 4) 4 118 117 := by decide +kernel
theorem d0_lowerEnded_117 : jdk cX0_lowerEnded 117 0 118 := Or.inl ⟨0, by decide +kernel⟩
theorem d0_lowerEnded_118 : decode cX0_lowerEnded 118 = .ok (.ireturn, 1) := by decide +kernel
set_option maxHeartbeats 4000000 in
set_option maxRecDepth 100000 in
theorem kX0_lowerEnded (l : Launch) (D : va_G) (tc : jTC) (h_ h_rules h_rules_codes h_words h_words_costs h_words_highs h_words_lows : Nat) (g_plainKnown g_exampleKey g_rules_count : Value) (c_rules_codes : (Nat → Int32)) (c_words_costs : (Nat → Int32)) (c_words_highs : (Nat → Int64)) (c_words_lows : (Nat → Int64)) (p1 : Int32) (p2 : Int32) : ctI l D tc yX0_lowerEnded (Cond.code yX0_lowerEnded cX0_lowerEnded 4 (some .boolean) :: jtb) ({ frames := 2, cells := 0, slots := 0, locals := 49 } : Room) [.ref h_, .int p1, .int p2] [(h_, .inr (0, [.ref h_rules, .ref h_words, g_plainKnown, g_exampleKey])), (h_rules, .inr (6, [.ref h_rules_codes, g_rules_count])), (h_rules_codes, .inl (tc.1, 24, .inl c_rules_codes)), (h_words, .inr (10, [.ref h_words_costs, .ref h_words_highs, .ref h_words_lows])), (h_words_costs, .inl (tc.1, 362, .inl c_words_costs)), (h_words_highs, .inl (tc.2.1, 362, .inr (.inl c_words_highs))), (h_words_lows, .inl (tc.2.1, 362, .inr (.inl c_words_lows)))] (fX0_lowerEnded c_rules_codes c_words_costs c_words_highs c_words_lows p1 p2) (fun (u : (Nat → Int32) × (Nat → Int64) × (Nat → Int64)) => [(h_, .inr (0, [.ref h_rules, .ref h_words, g_plainKnown, g_exampleKey])), (h_rules, .inr (6, [.ref h_rules_codes, g_rules_count])), (h_rules_codes, .inl (tc.1, 24, .inl c_rules_codes)), (h_words, .inr (10, [.ref h_words_costs, .ref h_words_highs, .ref h_words_lows])), (h_words_costs, .inl (tc.1, 362, .inl u.1)), (h_words_highs, .inl (tc.2.1, 362, .inr (.inl u.2.1))), (h_words_lows, .inl (tc.2.1, 362, .inr (.inl u.2.2)))]) := by
  refine ctI_of (lv0 := [(0, .ref h_), (1, .int p1), (2, .int p2)]) (by decide +kernel) (Nat.le_of_ble_eq_true rfl) rfl (fun X C => ?_)
  unfold fX0_lowerEnded
  refine j_const C d0_lowerEnded_0 ?_
  refine j_istore C d0_lowerEnded_1 (by decide) (lv' := [(3, .int 0), (0, .ref h_), (1, .int p1), (2, .int p2)]) rfl ?_
  refine j_aload C d0_lowerEnded_2 1 rfl ?_
  refine j_get C d0_lowerEnded_3 fl0_16 0 rfl rfl ?_
  refine j_const C d0_lowerEnded_6 ?_
  refine j_const C d0_lowerEnded_8 ?_
  refine j_callVV3 (As := [.int 73, .int 72]) C d0_lowerEnded_10 mv0_91 (kX10_putCopy _ _ tc 362 h_words h_words_costs h_words_highs h_words_lows c_words_costs c_words_highs c_words_lows 73 72) ⟨rfl, rfl, Nat.le_of_ble_eq_true rfl, Nat.le_of_ble_eq_true rfl⟩ rfl 3 rfl [3, 4, 5, 6] rfl rfl rfl (Nat.le_of_ble_eq_true rfl) (fun o1 o2 o3 => [(h_, .inr (0, [.ref h_rules, .ref h_words, g_plainKnown, g_exampleKey])), (h_rules, .inr (6, [.ref h_rules_codes, g_rules_count])), (h_rules_codes, .inl (tc.1, 24, .inl c_rules_codes)), (h_words, .inr (10, [.ref h_words_costs, .ref h_words_highs, .ref h_words_lows])), (h_words_costs, .inl (tc.1, 362, .inl o1)), (h_words_highs, .inl (tc.2.1, 362, .inr (.inl o2))), (h_words_lows, .inl (tc.2.1, 362, .inr (.inl o3)))]) [(false, 0), (false, 1), (false, 2), (true, 0), (true, 1), (true, 2), (true, 3)] (fun _ => rfl) (by decide +kernel) (fun o1 o2 o3 => ?_)
  refine j_aload C d0_lowerEnded_13 1 rfl ?_
  refine j_get C d0_lowerEnded_14 fl0_16 0 rfl rfl ?_
  refine j_const C d0_lowerEnded_17 ?_
  refine j_const C d0_lowerEnded_19 ?_
  refine j_aload C d0_lowerEnded_21 1 rfl ?_
  refine j_get C d0_lowerEnded_22 fl0_24 0 rfl rfl ?_
  refine j_get C d0_lowerEnded_25 fl0_47 1 rfl rfl ?_
  refine j_iload C d0_lowerEnded_28 2 rfl ?_
  refine j_iald C d0_lowerEnded_29 2 rfl (fun x4 => ?_)
  refine j_iload C d0_lowerEnded_30 3 rfl ?_
  refine j_callSI0 (As := [.int x4, .int p2]) C d0_lowerEnded_31 ms0_88 (kX6_symbolOf _ _ tc x4 p2) ⟨rfl, rfl, Nat.le_of_ble_eq_true rfl, Nat.le_of_ble_eq_true rfl⟩ rfl [] rfl rfl rfl (Nat.le_of_ble_eq_true rfl) (fun x5 => ?_)
  refine j_iadd C d0_lowerEnded_34 ?_
  refine j_callVV3 (As := [.int 73, .int ((36 : Int32) + x5)]) C d0_lowerEnded_35 mv0_95 (kX10_append _ _ tc 362 h_words h_words_costs h_words_highs h_words_lows o1 o2 o3 73 ((36 : Int32) + x5)) ⟨rfl, rfl, Nat.le_of_ble_eq_true rfl, Nat.le_of_ble_eq_true rfl⟩ rfl 3 rfl [3, 4, 5, 6] rfl rfl rfl (Nat.le_of_ble_eq_true rfl) (fun o6 o7 o8 => [(h_, .inr (0, [.ref h_rules, .ref h_words, g_plainKnown, g_exampleKey])), (h_rules, .inr (6, [.ref h_rules_codes, g_rules_count])), (h_rules_codes, .inl (tc.1, 24, .inl c_rules_codes)), (h_words, .inr (10, [.ref h_words_costs, .ref h_words_highs, .ref h_words_lows])), (h_words_costs, .inl (tc.1, 362, .inl o6)), (h_words_highs, .inl (tc.2.1, 362, .inr (.inl o7))), (h_words_lows, .inl (tc.2.1, 362, .inr (.inl o8)))]) [(false, 0), (false, 1), (false, 2), (true, 0), (true, 1), (true, 2), (true, 3)] (fun _ => rfl) (by decide +kernel) (fun o6 o7 o8 => ?_)
  refine j_aload C d0_lowerEnded_38 1 rfl ?_
  refine j_get C d0_lowerEnded_39 fl0_16 0 rfl rfl ?_
  refine j_iload C d0_lowerEnded_42 2 rfl ?_
  refine j_iload C d0_lowerEnded_43 3 rfl ?_
  refine j_const C d0_lowerEnded_44 ?_
  refine j_iadd C d0_lowerEnded_45 ?_
  refine j_callSI0 (As := [.int p1, .int (p2 + (1 : Int32))]) C d0_lowerEnded_46 ms0_74 (kX0_plainTail _ _ tc p1 (p2 + (1 : Int32))) ⟨rfl, rfl, Nat.le_of_ble_eq_true rfl, Nat.le_of_ble_eq_true rfl⟩ rfl [] rfl rfl rfl (Nat.le_of_ble_eq_true rfl) (fun x9 => ?_)
  refine j_callVI0 (As := [.int x9]) C d0_lowerEnded_49 mv0_104 (kX10_isEmpty _ _ tc 362 h_words h_words_costs (.ref h_words_highs) (.ref h_words_lows) o6 x9) ⟨rfl, rfl, Nat.le_of_ble_eq_true rfl, Nat.le_of_ble_eq_true rfl⟩ rfl 3 rfl [3, 4] rfl rfl rfl (Nat.le_of_ble_eq_true rfl) (fun x10 => ?_)
  refine j_join4 73 (fun v11 v12 v13 v14 => [(h_, .inr (0, [.ref h_rules, .ref h_words, g_plainKnown, g_exampleKey])), (h_rules, .inr (6, [.ref h_rules_codes, g_rules_count])), (h_rules_codes, .inl (tc.1, 24, .inl c_rules_codes)), (h_words, .inr (10, [.ref h_words_costs, .ref h_words_highs, .ref h_words_lows])), (h_words_costs, .inl (tc.1, 362, .inl v12)), (h_words_highs, .inl (tc.2.1, 362, .inr (.inl v13))), (h_words_lows, .inl (tc.2.1, 362, .inr (.inl v14)))]) (fun v11 v12 v13 v14 => [(0, .ref h_), (1, .int p1), (2, .int p2), (3, .int v11)]) (fun v11 v12 v13 v14 => []) (fun v11 v12 v13 v14 => ?_) (fun k28 hk28 => ?_)
  · refine j_aload C d0_lowerEnded_73 0 rfl ?_
    refine j_get C d0_lowerEnded_74 fl0_16 0 rfl rfl ?_
    refine j_const C d0_lowerEnded_77 ?_
    refine j_iload C d0_lowerEnded_79 1 rfl ?_
    refine j_iload C d0_lowerEnded_80 2 rfl ?_
    refine j_const C d0_lowerEnded_81 ?_
    refine j_iadd C d0_lowerEnded_82 ?_
    refine j_callSI0 (As := [.int p1, .int (p2 + (1 : Int32))]) C d0_lowerEnded_83 ms0_101 (kX0_startingTail _ _ tc p1 (p2 + (1 : Int32))) ⟨rfl, rfl, Nat.le_of_ble_eq_true rfl, Nat.le_of_ble_eq_true rfl⟩ rfl [] rfl rfl rfl (Nat.le_of_ble_eq_true rfl) (fun x15 => ?_)
    refine j_callVV3 (As := [.int 73, .int x15]) C d0_lowerEnded_86 mv0_95 (kX10_append _ _ tc 362 h_words h_words_costs h_words_highs h_words_lows v12 v13 v14 73 x15) ⟨rfl, rfl, Nat.le_of_ble_eq_true rfl, Nat.le_of_ble_eq_true rfl⟩ rfl 3 rfl [3, 4, 5, 6] rfl rfl rfl (Nat.le_of_ble_eq_true rfl) (fun o16 o17 o18 => [(h_, .inr (0, [.ref h_rules, .ref h_words, g_plainKnown, g_exampleKey])), (h_rules, .inr (6, [.ref h_rules_codes, g_rules_count])), (h_rules_codes, .inl (tc.1, 24, .inl c_rules_codes)), (h_words, .inr (10, [.ref h_words_costs, .ref h_words_highs, .ref h_words_lows])), (h_words_costs, .inl (tc.1, 362, .inl o16)), (h_words_highs, .inl (tc.2.1, 362, .inr (.inl o17))), (h_words_lows, .inl (tc.2.1, 362, .inr (.inl o18)))]) [(false, 0), (false, 1), (false, 2), (true, 0), (true, 1), (true, 2), (true, 3)] (fun _ => rfl) (by decide +kernel) (fun o16 o17 o18 => ?_)
    refine j_aload C d0_lowerEnded_89 0 rfl ?_
    refine j_get C d0_lowerEnded_90 fl0_16 0 rfl rfl ?_
    refine j_const C d0_lowerEnded_93 ?_
    refine j_aload C d0_lowerEnded_95 0 rfl ?_
    refine j_iload C d0_lowerEnded_96 1 rfl ?_
    refine j_callVI0 (As := [.int p1]) C d0_lowerEnded_97 mv0_71 (kX0_leftSymbol _ _ tc h_ h_rules h_rules_codes (.ref h_words) g_plainKnown g_exampleKey g_rules_count c_rules_codes p1) ⟨rfl, rfl, Nat.le_of_ble_eq_true rfl, Nat.le_of_ble_eq_true rfl⟩ rfl 0 rfl [0, 1, 2] rfl rfl rfl (Nat.le_of_ble_eq_true rfl) (fun x19 => ?_)
    refine j_iadd C d0_lowerEnded_100 ?_
    refine j_const C d0_lowerEnded_101 ?_
    refine j_callVI4 (As := [.int ((54 : Int32) + x19), .int 73]) C d0_lowerEnded_103 mv0_78 (kX10_lower _ _ tc 362 h_words h_words_costs h_words_highs h_words_lows o16 o17 o18 ((54 : Int32) + x19) 73) ⟨rfl, rfl, Nat.le_of_ble_eq_true rfl, Nat.le_of_ble_eq_true rfl⟩ rfl 3 rfl [3, 4, 5, 6] rfl rfl rfl (Nat.le_of_ble_eq_true rfl) (fun o20 o21 o22 => [(h_, .inr (0, [.ref h_rules, .ref h_words, g_plainKnown, g_exampleKey])), (h_rules, .inr (6, [.ref h_rules_codes, g_rules_count])), (h_rules_codes, .inl (tc.1, 24, .inl c_rules_codes)), (h_words, .inr (10, [.ref h_words_costs, .ref h_words_highs, .ref h_words_lows])), (h_words_costs, .inl (tc.1, 362, .inl o20)), (h_words_highs, .inl (tc.2.1, 362, .inr (.inl o21))), (h_words_lows, .inl (tc.2.1, 362, .inr (.inl o22)))]) [(false, 0), (false, 1), (false, 2), (true, 0), (true, 1), (true, 2), (true, 3)] (fun _ => rfl) (by decide +kernel) (fun o23 o20 o21 o22 => ?_)
    refine j_join 118 (fun v24 => [(h_, .inr (0, [.ref h_rules, .ref h_words, g_plainKnown, g_exampleKey])), (h_rules, .inr (6, [.ref h_rules_codes, g_rules_count])), (h_rules_codes, .inl (tc.1, 24, .inl c_rules_codes)), (h_words, .inr (10, [.ref h_words_costs, .ref h_words_highs, .ref h_words_lows])), (h_words_costs, .inl (tc.1, 362, .inl o20)), (h_words_highs, .inl (tc.2.1, 362, .inr (.inl o21))), (h_words_lows, .inl (tc.2.1, 362, .inr (.inl o22)))]) (fun v24 => []) (fun v24 => [.int v24]) (fun v24 => ?_) (fun k25 hk25 => ?_)
    · refine j_gz (fun hz => ?_)
      exact j_zret C hz d0_lowerEnded_118 rfl
    · refine j_join 113 (fun v26 => [(h_, .inr (0, [.ref h_rules, .ref h_words, g_plainKnown, g_exampleKey])), (h_rules, .inr (6, [.ref h_rules_codes, g_rules_count])), (h_rules_codes, .inl (tc.1, 24, .inl c_rules_codes)), (h_words, .inr (10, [.ref h_words_costs, .ref h_words_highs, .ref h_words_lows])), (h_words_costs, .inl (tc.1, 362, .inl o20)), (h_words_highs, .inl (tc.2.1, 362, .inr (.inl o21))), (h_words_lows, .inl (tc.2.1, 362, .inr (.inl o22)))]) (fun v26 => []) (fun v26 => []) (fun v26 => ?_) (fun k27 hk27 => ?_)
      · refine j_const C d0_lowerEnded_113 ?_
        refine j_goto C d0_lowerEnded_114 ?_
        exact hk25 _
      · refine j_if_ne C d0_lowerEnded_106 ?_ ?_
        · exact j_sub [] rfl (hk27 _)
        · refine j_iload C d0_lowerEnded_109 3 rfl ?_
          refine j_if_eq C d0_lowerEnded_110 ?_ ?_
          · refine j_const C d0_lowerEnded_117 ?_
            exact j_sub [] rfl (hk25 _)
          · exact j_sub [] rfl (hk27 _)
  · refine j_if_eq C d0_lowerEnded_52 ?_ ?_
    · exact j_sub [1, 2, 3, 0] rfl (hk28 _ _ _ _)
    · refine j_aload C d0_lowerEnded_55 1 rfl ?_
      refine j_get C d0_lowerEnded_56 fl0_16 0 rfl rfl ?_
      refine j_const C d0_lowerEnded_59 ?_
      refine j_aload C d0_lowerEnded_61 1 rfl ?_
      refine j_iload C d0_lowerEnded_62 2 rfl ?_
      refine j_callVI0 (As := [.int p1]) C d0_lowerEnded_63 mv0_71 (kX0_leftSymbol _ _ tc h_ h_rules h_rules_codes (.ref h_words) g_plainKnown g_exampleKey g_rules_count c_rules_codes p1) ⟨rfl, rfl, Nat.le_of_ble_eq_true rfl, Nat.le_of_ble_eq_true rfl⟩ rfl 0 rfl [0, 1, 2] rfl rfl rfl (Nat.le_of_ble_eq_true rfl) (fun x29 => ?_)
      refine j_iadd C d0_lowerEnded_66 ?_
      refine j_const C d0_lowerEnded_67 ?_
      refine j_callVI4 (As := [.int ((36 : Int32) + x29), .int 73]) C d0_lowerEnded_69 mv0_78 (kX10_lower _ _ tc 362 h_words h_words_costs h_words_highs h_words_lows o6 o7 o8 ((36 : Int32) + x29) 73) ⟨rfl, rfl, Nat.le_of_ble_eq_true rfl, Nat.le_of_ble_eq_true rfl⟩ rfl 3 rfl [3, 4, 5, 6] rfl rfl rfl (Nat.le_of_ble_eq_true rfl) (fun o30 o31 o32 => [(h_, .inr (0, [.ref h_rules, .ref h_words, g_plainKnown, g_exampleKey])), (h_rules, .inr (6, [.ref h_rules_codes, g_rules_count])), (h_rules_codes, .inl (tc.1, 24, .inl c_rules_codes)), (h_words, .inr (10, [.ref h_words_costs, .ref h_words_highs, .ref h_words_lows])), (h_words_costs, .inl (tc.1, 362, .inl o30)), (h_words_highs, .inl (tc.2.1, 362, .inr (.inl o31))), (h_words_lows, .inl (tc.2.1, 362, .inr (.inl o32)))]) [(false, 0), (false, 1), (false, 2), (true, 0), (true, 1), (true, 2), (true, 3)] (fun _ => rfl) (by decide +kernel) (fun o33 o30 o31 o32 => ?_)
      refine j_istore C d0_lowerEnded_72 (by decide) (lv' := [(3, .int o33), (0, .ref h_), (1, .int p1), (2, .int p2)]) rfl ?_
      exact j_sub [1, 2, 3, 0] rfl (hk28 _ _ _ _)

theorem d0_lowerMarked_0 : jdk cX0_lowerMarked 0 0 1 := Or.inl ⟨0, by decide +kernel⟩
theorem d0_lowerMarked_1 : jds cX0_lowerMarked 1 2 2 := Or.inl ⟨2, by decide +kernel⟩
theorem d0_lowerMarked_2 : jda cX0_lowerMarked 2 0 3 := Or.inl ⟨0, by decide +kernel⟩
theorem d0_lowerMarked_3 : jd cX0_lowerMarked 3 (.getfield 24) 3 6 := by decide +kernel
theorem d0_lowerMarked_6 : jd cX0_lowerMarked 6 (.getfield 47) 3 9 := by decide +kernel
theorem d0_lowerMarked_9 : jdi cX0_lowerMarked 9 1 10 := Or.inl ⟨1, by decide +kernel⟩
theorem d0_lowerMarked_10 : jd cX0_lowerMarked 10 (.iaload) 1 11 := by decide +kernel
theorem d0_lowerMarked_11 : jds cX0_lowerMarked 11 3 12 := Or.inl ⟨3, by decide +kernel⟩
theorem d0_lowerMarked_12 : jda cX0_lowerMarked 12 0 13 := Or.inl ⟨0, by decide +kernel⟩
theorem d0_lowerMarked_13 : jd cX0_lowerMarked 13 (.getfield 16) 3 16 := by decide +kernel
theorem d0_lowerMarked_16 : jdk cX0_lowerMarked 16 72 18 := Or.inr (Or.inl ⟨72, by decide +kernel⟩)
theorem d0_lowerMarked_18 : jd cX0_lowerMarked 18 (.invokevirtual 85) 3 21 := by decide +kernel
theorem d0_lowerMarked_21 : jdk cX0_lowerMarked 21 0 22 := Or.inl ⟨0, by decide +kernel⟩
theorem d0_lowerMarked_22 : jds cX0_lowerMarked 22 4 24 := Or.inr (by decide +kernel)
theorem d0_lowerMarked_24 : jdi cX0_lowerMarked 24 4 26 := Or.inr (by decide +kernel)
theorem d0_lowerMarked_26 : jdi cX0_lowerMarked 26 3 27 := Or.inl ⟨3, by decide +kernel⟩
theorem d0_lowerMarked_27 : jd cX0_lowerMarked 27 (.invokestatic 82) 3 30 := by decide +kernel
theorem d0_lowerMarked_30 : jdb cX0_lowerMarked 30 (.if_icmp .ge 152) 152 182 33 := by decide +kernel
theorem d0_lowerMarked_33 : jdi cX0_lowerMarked 33 3 34 := Or.inl ⟨3, by decide +kernel⟩
theorem d0_lowerMarked_34 : jdi cX0_lowerMarked 34 4 36 := Or.inr (by decide +kernel)
theorem d0_lowerMarked_36 : jd cX0_lowerMarked 36 (.invokestatic 88) 3 39 := by decide +kernel
theorem d0_lowerMarked_39 : jds cX0_lowerMarked 39 5 41 := Or.inr (by decide +kernel)
theorem d0_lowerMarked_41 : jda cX0_lowerMarked 41 0 42 := Or.inl ⟨0, by decide +kernel⟩
theorem d0_lowerMarked_42 : jd cX0_lowerMarked 42 (.getfield 16) 3 45 := by decide +kernel
theorem d0_lowerMarked_45 : jdk cX0_lowerMarked 45 54 47 := Or.inr (Or.inl ⟨54, by decide +kernel⟩)
theorem d0_lowerMarked_47 : jdi cX0_lowerMarked 47 5 49 := Or.inr (by decide +kernel)
theorem d0_lowerMarked_49 : jd cX0_lowerMarked 49 (.iadd) 1 50 := by decide +kernel
theorem d0_lowerMarked_50 : jd cX0_lowerMarked 50 (.invokevirtual 110) 3 53 := by decide +kernel
theorem d0_lowerMarked_53 : jdb cX0_lowerMarked 53 (.ifCond .eq 75) 75 128 56 := by decide +kernel
theorem d0_lowerMarked_56 : jda cX0_lowerMarked 56 0 57 := Or.inl ⟨0, by decide +kernel⟩
theorem d0_lowerMarked_57 : jd cX0_lowerMarked 57 (.getfield 16) 3 60 := by decide +kernel
theorem d0_lowerMarked_60 : jdk cX0_lowerMarked 60 73 62 := Or.inr (Or.inl ⟨73, by decide +kernel⟩)
theorem d0_lowerMarked_62 : jdk cX0_lowerMarked 62 72 64 := Or.inr (Or.inl ⟨72, by decide +kernel⟩)
theorem d0_lowerMarked_64 : jd cX0_lowerMarked 64 (.invokevirtual 91) 3 67 := by decide +kernel
theorem d0_lowerMarked_67 : jda cX0_lowerMarked 67 0 68 := Or.inl ⟨0, by decide +kernel⟩
theorem d0_lowerMarked_68 : jd cX0_lowerMarked 68 (.getfield 16) 3 71 := by decide +kernel
theorem d0_lowerMarked_71 : jdk cX0_lowerMarked 71 73 73 := Or.inr (Or.inl ⟨73, by decide +kernel⟩)
theorem d0_lowerMarked_73 : jdk cX0_lowerMarked 73 54 75 := Or.inr (Or.inl ⟨54, by decide +kernel⟩)
theorem d0_lowerMarked_75 : jdi cX0_lowerMarked 75 5 77 := Or.inr (by decide +kernel)
theorem d0_lowerMarked_77 : jd cX0_lowerMarked 77 (.iadd) 1 78 := by decide +kernel
theorem d0_lowerMarked_78 : jd cX0_lowerMarked 78 (.invokevirtual 95) 3 81 := by decide +kernel
theorem d0_lowerMarked_81 : jda cX0_lowerMarked 81 0 82 := Or.inl ⟨0, by decide +kernel⟩
theorem d0_lowerMarked_82 : jd cX0_lowerMarked 82 (.getfield 16) 3 85 := by decide +kernel
theorem d0_lowerMarked_85 : jdk cX0_lowerMarked 85 73 87 := Or.inr (Or.inl ⟨73, by decide +kernel⟩)
theorem d0_lowerMarked_87 : jdi cX0_lowerMarked 87 1 88 := Or.inl ⟨1, by decide +kernel⟩
theorem d0_lowerMarked_88 : jdi cX0_lowerMarked 88 4 90 := Or.inr (by decide +kernel)
theorem d0_lowerMarked_90 : jdk cX0_lowerMarked 90 1 91 := Or.inl ⟨1, by decide +kernel⟩
theorem d0_lowerMarked_91 : jd cX0_lowerMarked 91 (.iadd) 1 92 := by decide +kernel
theorem d0_lowerMarked_92 : jd cX0_lowerMarked 92 (.invokestatic 74) 3 95 := by decide +kernel
theorem d0_lowerMarked_95 : jd cX0_lowerMarked 95 (.invokevirtual 95) 3 98 := by decide +kernel
theorem d0_lowerMarked_98 : jda cX0_lowerMarked 98 0 99 := Or.inl ⟨0, by decide +kernel⟩
theorem d0_lowerMarked_99 : jd cX0_lowerMarked 99 (.getfield 16) 3 102 := by decide +kernel
theorem d0_lowerMarked_102 : jdk cX0_lowerMarked 102 54 104 := Or.inr (Or.inl ⟨54, by decide +kernel⟩)
theorem d0_lowerMarked_104 : jda cX0_lowerMarked 104 0 105 := Or.inl ⟨0, by decide +kernel⟩
theorem d0_lowerMarked_105 : jdi cX0_lowerMarked 105 1 106 := Or.inl ⟨1, by decide +kernel⟩
theorem d0_lowerMarked_106 : jd cX0_lowerMarked 106 (.invokevirtual 71) 3 109 := by decide +kernel
theorem d0_lowerMarked_109 : jd cX0_lowerMarked 109 (.iadd) 1 110 := by decide +kernel
theorem d0_lowerMarked_110 : jdk cX0_lowerMarked 110 73 112 := Or.inr (Or.inl ⟨73, by decide +kernel⟩)
theorem d0_lowerMarked_112 : jd cX0_lowerMarked 112 (.invokevirtual 78) 3 115 := by decide +kernel
theorem d0_lowerMarked_115 : jdb cX0_lowerMarked 115 (.ifCond .ne 7) 7 122 118 := by decide +kernel
theorem d0_lowerMarked_118 : jdi cX0_lowerMarked 118 2 119 := Or.inl ⟨2, by decide +kernel⟩
theorem d0_lowerMarked_119 : jdb cX0_lowerMarked 119 (.ifCond .eq 7) 7 126 122 := by decide +kernel
theorem d0_lowerMarked_122 : jdk cX0_lowerMarked 122 1 123 := Or.inl ⟨1, by decide +kernel⟩
theorem d0_lowerMarked_123 : jdb cX0_lowerMarked 123 (.goto 4) 4 127 126 := by decide +kernel
theorem d0_lowerMarked_126 : jdk cX0_lowerMarked 126 0 127 := Or.inl ⟨0, by decide +kernel⟩
theorem d0_lowerMarked_127 : jds cX0_lowerMarked 127 2 128 := Or.inl ⟨2, by decide +kernel⟩
theorem d0_lowerMarked_128 : jda cX0_lowerMarked 128 0 129 := Or.inl ⟨0, by decide +kernel⟩
theorem d0_lowerMarked_129 : jd cX0_lowerMarked 129 (.getfield 16) 3 132 := by decide +kernel
theorem d0_lowerMarked_132 : jdk cX0_lowerMarked 132 36 134 := Or.inr (Or.inl ⟨36, by decide +kernel⟩)
theorem d0_lowerMarked_134 : jdi cX0_lowerMarked 134 5 136 := Or.inr (by decide +kernel)
theorem d0_lowerMarked_136 : jd cX0_lowerMarked 136 (.iadd) 1 137 := by decide +kernel
theorem d0_lowerMarked_137 : jd cX0_lowerMarked 137 (.invokevirtual 110) 3 140 := by decide +kernel
theorem d0_lowerMarked_140 : jdb cX0_lowerMarked 140 (.ifCond .eq 23) 23 163 143 := by decide +kernel
theorem d0_lowerMarked_143 : jda cX0_lowerMarked 143 0 144 := Or.inl ⟨0, by decide +kernel⟩
theorem d0_lowerMarked_144 : jdi cX0_lowerMarked 144 1 145 := Or.inl ⟨1, by decide +kernel⟩
theorem d0_lowerMarked_145 : jdi cX0_lowerMarked 145 4 147 := Or.inr (by decide +kernel)
theorem d0_lowerMarked_147 : jd cX0_lowerMarked 147 (.invokevirtual 113) 3 150 := by decide +kernel
theorem d0_lowerMarked_150 : jdb cX0_lowerMarked 150 (.ifCond .ne 7) 7 157 153 := by decide +kernel
theorem d0_lowerMarked_153 : jdi cX0_lowerMarked 153 2 154 := Or.inl ⟨2, by decide +kernel⟩
theorem d0_lowerMarked_154 : jdb cX0_lowerMarked 154 (.ifCond .eq 7) 7 161 157 := by decide +kernel
theorem d0_lowerMarked_157 : jdk cX0_lowerMarked 157 1 158 := Or.inl ⟨1, by decide +kernel⟩
theorem d0_lowerMarked_158 : jdb cX0_lowerMarked 158 (.goto 4) 4 162 161 := by decide +kernel
theorem d0_lowerMarked_161 : jdk cX0_lowerMarked 161 0 162 := Or.inl ⟨0, by decide +kernel⟩
theorem d0_lowerMarked_162 : jds cX0_lowerMarked 162 2 163 := Or.inl ⟨2, by decide +kernel⟩
theorem d0_lowerMarked_163 : jda cX0_lowerMarked 163 0 164 := Or.inl ⟨0, by decide +kernel⟩
theorem d0_lowerMarked_164 : jd cX0_lowerMarked 164 (.getfield 16) 3 167 := by decide +kernel
theorem d0_lowerMarked_167 : jdk cX0_lowerMarked 167 72 169 := Or.inr (Or.inl ⟨72, by decide +kernel⟩)
theorem d0_lowerMarked_169 : jdk cX0_lowerMarked 169 0 170 := Or.inl ⟨0, by decide +kernel⟩
theorem d0_lowerMarked_170 : jdi cX0_lowerMarked 170 5 172 := Or.inr (by decide +kernel)
theorem d0_lowerMarked_172 : jd cX0_lowerMarked 172 (.iadd) 1 173 := by decide +kernel
theorem d0_lowerMarked_173 : jd cX0_lowerMarked 173 (.invokevirtual 95) 3 176 := by decide +kernel
theorem d0_lowerMarked_176 : jd cX0_lowerMarked 176 (.iinc 4 1) 3 179 := by decide +kernel
theorem d0_lowerMarked_179 : jdb cX0_lowerMarked 179 (.goto (-155)) (-155) 24 182 := by decide +kernel
theorem d0_lowerMarked_182 : jdi cX0_lowerMarked 182 2 183 := Or.inl ⟨2, by decide +kernel⟩
theorem d0_lowerMarked_183 : decode cX0_lowerMarked 183 = .ok (.ireturn, 1) := by decide +kernel
set_option maxHeartbeats 4000000 in
set_option maxRecDepth 100000 in
theorem wX0_lowerMarked_24 {X : jC} {tc : jTC} (C : jx X cX0_lowerMarked 6 RX0 (some .boolean) tc ({ frames := 3, cells := 0, slots := 0, locals := 72 } : Room)) (h_ h_rules h_rules_codes h_words h_words_costs h_words_highs h_words_lows : Nat) (g_plainKnown g_exampleKey g_rules_count : Value) (p1 : Int32) (c_rules_codes : (Nat → Int32)) (x1 : Int32) (k9 : (Int32 → (Nat → Int32) → (Nat → Int64) → (Nat → Int64) → Option (Int32 × (Nat → Int32) × (Nat → Int64) × (Nat → Int64)))) (hk9 : ∀ (v61 : Int32) (v62 : (Nat → Int32)) (v63 : (Nat → Int64)) (v64 : (Nat → Int64)), jo X 6 (0, 0) (jQI X (fun (u : (Nat → Int32) × (Nat → Int64) × (Nat → Int64)) => [(h_, .inr (0, [.ref h_rules, .ref h_words, g_plainKnown, g_exampleKey])), (h_rules, .inr (6, [.ref h_rules_codes, g_rules_count])), (h_rules_codes, .inl (tc.1, 24, .inl c_rules_codes)), (h_words, .inr (10, [.ref h_words_costs, .ref h_words_highs, .ref h_words_lows])), (h_words_costs, .inl (tc.1, 362, .inl u.1)), (h_words_highs, .inl (tc.2.1, 362, .inr (.inl u.2.1))), (h_words_lows, .inl (tc.2.1, 362, .inr (.inl u.2.2)))])) (k9 v61 v62 v63 v64) [(h_, .inr (0, [.ref h_rules, .ref h_words, g_plainKnown, g_exampleKey])), (h_rules, .inr (6, [.ref h_rules_codes, g_rules_count])), (h_rules_codes, .inl (tc.1, 24, .inl c_rules_codes)), (h_words, .inr (10, [.ref h_words_costs, .ref h_words_highs, .ref h_words_lows])), (h_words_costs, .inl (tc.1, 362, .inl v62)), (h_words_highs, .inl (tc.2.1, 362, .inr (.inl v63))), (h_words_lows, .inl (tc.2.1, 362, .inr (.inl v64)))] 182 [(2, .int v61)] []) (rc15 : Int32 → Int32 → (Nat → Int32) → (Nat → Int64) → (Nat → Int64) → Option (Int32 × (Nat → Int32) × (Nat → Int64) × (Nat → Int64))) (hrc15 : ∀ (v10 : Int32) (v11 : Int32) (v12 : (Nat → Int32)) (v13 : (Nat → Int64)) (v14 : (Nat → Int64)), jo X 6 (0, 0) (jQI X (fun (u : (Nat → Int32) × (Nat → Int64) × (Nat → Int64)) => [(h_, .inr (0, [.ref h_rules, .ref h_words, g_plainKnown, g_exampleKey])), (h_rules, .inr (6, [.ref h_rules_codes, g_rules_count])), (h_rules_codes, .inl (tc.1, 24, .inl c_rules_codes)), (h_words, .inr (10, [.ref h_words_costs, .ref h_words_highs, .ref h_words_lows])), (h_words_costs, .inl (tc.1, 362, .inl u.1)), (h_words_highs, .inl (tc.2.1, 362, .inr (.inl u.2.1))), (h_words_lows, .inl (tc.2.1, 362, .inr (.inl u.2.2)))])) (rc15 v10 v11 v12 v13 v14) [(h_, .inr (0, [.ref h_rules, .ref h_words, g_plainKnown, g_exampleKey])), (h_rules, .inr (6, [.ref h_rules_codes, g_rules_count])), (h_rules_codes, .inl (tc.1, 24, .inl c_rules_codes)), (h_words, .inr (10, [.ref h_words_costs, .ref h_words_highs, .ref h_words_lows])), (h_words_costs, .inl (tc.1, 362, .inl v12)), (h_words_highs, .inl (tc.2.1, 362, .inr (.inl v13))), (h_words_lows, .inl (tc.2.1, 362, .inr (.inl v14)))] 24 [(0, .ref h_), (1, .int p1), (2, .int v10), (3, .int x1), (4, .int v11)] []) (v10 : Int32) (v11 : Int32) (v12 : (Nat → Int32)) (v13 : (Nat → Int64)) (v14 : (Nat → Int64)) : jo X 6 (0, 0) (jQI X (fun (u : (Nat → Int32) × (Nat → Int64) × (Nat → Int64)) => [(h_, .inr (0, [.ref h_rules, .ref h_words, g_plainKnown, g_exampleKey])), (h_rules, .inr (6, [.ref h_rules_codes, g_rules_count])), (h_rules_codes, .inl (tc.1, 24, .inl c_rules_codes)), (h_words, .inr (10, [.ref h_words_costs, .ref h_words_highs, .ref h_words_lows])), (h_words_costs, .inl (tc.1, 362, .inl u.1)), (h_words_highs, .inl (tc.2.1, 362, .inr (.inl u.2.1))), (h_words_lows, .inl (tc.2.1, 362, .inr (.inl u.2.2)))])) (bX0_lowerMarked_24 p1 c_rules_codes x1 k9 rc15 v10 v11 v12 v13 v14) [(h_, .inr (0, [.ref h_rules, .ref h_words, g_plainKnown, g_exampleKey])), (h_rules, .inr (6, [.ref h_rules_codes, g_rules_count])), (h_rules_codes, .inl (tc.1, 24, .inl c_rules_codes)), (h_words, .inr (10, [.ref h_words_costs, .ref h_words_highs, .ref h_words_lows])), (h_words_costs, .inl (tc.1, 362, .inl v12)), (h_words_highs, .inl (tc.2.1, 362, .inr (.inl v13))), (h_words_lows, .inl (tc.2.1, 362, .inr (.inl v14)))] 24 [(0, .ref h_), (1, .int p1), (2, .int v10), (3, .int x1), (4, .int v11)] [] := by
  unfold bX0_lowerMarked_24
  refine j_iload C d0_lowerMarked_24 4 rfl ?_
  refine j_iload C d0_lowerMarked_26 3 rfl ?_
  refine j_callSI0 (As := [.int x1]) C d0_lowerMarked_27 ms0_82 (kX6_lengthOf _ _ tc x1) ⟨rfl, rfl, Nat.le_of_ble_eq_true rfl, Nat.le_of_ble_eq_true rfl⟩ rfl [] rfl rfl rfl (Nat.le_of_ble_eq_true rfl) (fun x16 => ?_)
  refine j_icmp_ge C d0_lowerMarked_30 ?_ ?_
  · exact j_sub [2] rfl (hk9 _ _ _ _)
  · refine j_iload C d0_lowerMarked_33 3 rfl ?_
    refine j_iload C d0_lowerMarked_34 4 rfl ?_
    refine j_callSI0 (As := [.int x1, .int v11]) C d0_lowerMarked_36 ms0_88 (kX6_symbolOf _ _ tc x1 v11) ⟨rfl, rfl, Nat.le_of_ble_eq_true rfl, Nat.le_of_ble_eq_true rfl⟩ rfl [] rfl rfl rfl (Nat.le_of_ble_eq_true rfl) (fun x17 => ?_)
    refine j_istore C d0_lowerMarked_39 (by decide) (lv' := [(5, .int x17), (0, .ref h_), (1, .int p1), (2, .int v10), (3, .int x1), (4, .int v11)]) rfl ?_
    refine j_aload C d0_lowerMarked_41 1 rfl ?_
    refine j_get C d0_lowerMarked_42 fl0_16 0 rfl rfl ?_
    refine j_const C d0_lowerMarked_45 ?_
    refine j_iload C d0_lowerMarked_47 0 rfl ?_
    refine j_iadd C d0_lowerMarked_49 ?_
    refine j_callVI0 (As := [.int ((54 : Int32) + x17)]) C d0_lowerMarked_50 mv0_110 (kX10_exists _ _ tc 362 h_words h_words_costs (.ref h_words_highs) (.ref h_words_lows) v12 ((54 : Int32) + x17)) ⟨rfl, rfl, Nat.le_of_ble_eq_true rfl, Nat.le_of_ble_eq_true rfl⟩ rfl 3 rfl [3, 4] rfl rfl rfl (Nat.le_of_ble_eq_true rfl) (fun x18 => ?_)
    refine j_join4 128 (fun v19 v20 v21 v22 => [(h_, .inr (0, [.ref h_rules, .ref h_words, g_plainKnown, g_exampleKey])), (h_rules, .inr (6, [.ref h_rules_codes, g_rules_count])), (h_rules_codes, .inl (tc.1, 24, .inl c_rules_codes)), (h_words, .inr (10, [.ref h_words_costs, .ref h_words_highs, .ref h_words_lows])), (h_words_costs, .inl (tc.1, 362, .inl v20)), (h_words_highs, .inl (tc.2.1, 362, .inr (.inl v21))), (h_words_lows, .inl (tc.2.1, 362, .inr (.inl v22)))]) (fun v19 v20 v21 v22 => [(0, .ref h_), (1, .int p1), (2, .int v19), (3, .int x1), (4, .int v11), (5, .int x17)]) (fun v19 v20 v21 v22 => []) (fun v19 v20 v21 v22 => ?_) (fun k41 hk41 => ?_)
    · refine j_aload C d0_lowerMarked_128 0 rfl ?_
      refine j_get C d0_lowerMarked_129 fl0_16 0 rfl rfl ?_
      refine j_const C d0_lowerMarked_132 ?_
      refine j_iload C d0_lowerMarked_134 5 rfl ?_
      refine j_iadd C d0_lowerMarked_136 ?_
      refine j_callVI0 (As := [.int ((36 : Int32) + x17)]) C d0_lowerMarked_137 mv0_110 (kX10_exists _ _ tc 362 h_words h_words_costs (.ref h_words_highs) (.ref h_words_lows) v20 ((36 : Int32) + x17)) ⟨rfl, rfl, Nat.le_of_ble_eq_true rfl, Nat.le_of_ble_eq_true rfl⟩ rfl 3 rfl [3, 4] rfl rfl rfl (Nat.le_of_ble_eq_true rfl) (fun x23 => ?_)
      refine j_join4 163 (fun v24 v25 v26 v27 => [(h_, .inr (0, [.ref h_rules, .ref h_words, g_plainKnown, g_exampleKey])), (h_rules, .inr (6, [.ref h_rules_codes, g_rules_count])), (h_rules_codes, .inl (tc.1, 24, .inl c_rules_codes)), (h_words, .inr (10, [.ref h_words_costs, .ref h_words_highs, .ref h_words_lows])), (h_words_costs, .inl (tc.1, 362, .inl v25)), (h_words_highs, .inl (tc.2.1, 362, .inr (.inl v26))), (h_words_lows, .inl (tc.2.1, 362, .inr (.inl v27)))]) (fun v24 v25 v26 v27 => [(0, .ref h_), (1, .int p1), (2, .int v24), (3, .int x1), (4, .int v11), (5, .int x17)]) (fun v24 v25 v26 v27 => []) (fun v24 v25 v26 v27 => ?_) (fun k32 hk32 => ?_)
      · refine j_aload C d0_lowerMarked_163 0 rfl ?_
        refine j_get C d0_lowerMarked_164 fl0_16 0 rfl rfl ?_
        refine j_const C d0_lowerMarked_167 ?_
        refine j_const C d0_lowerMarked_169 ?_
        refine j_iload C d0_lowerMarked_170 5 rfl ?_
        refine j_iadd C d0_lowerMarked_172 ?_
        refine j_callVV3 (As := [.int 72, .int ((0 : Int32) + x17)]) C d0_lowerMarked_173 mv0_95 (kX10_append _ _ tc 362 h_words h_words_costs h_words_highs h_words_lows v25 v26 v27 72 ((0 : Int32) + x17)) ⟨rfl, rfl, Nat.le_of_ble_eq_true rfl, Nat.le_of_ble_eq_true rfl⟩ rfl 3 rfl [3, 4, 5, 6] rfl rfl rfl (Nat.le_of_ble_eq_true rfl) (fun o28 o29 o30 => [(h_, .inr (0, [.ref h_rules, .ref h_words, g_plainKnown, g_exampleKey])), (h_rules, .inr (6, [.ref h_rules_codes, g_rules_count])), (h_rules_codes, .inl (tc.1, 24, .inl c_rules_codes)), (h_words, .inr (10, [.ref h_words_costs, .ref h_words_highs, .ref h_words_lows])), (h_words_costs, .inl (tc.1, 362, .inl o28)), (h_words_highs, .inl (tc.2.1, 362, .inr (.inl o29))), (h_words_lows, .inl (tc.2.1, 362, .inr (.inl o30)))]) [(false, 0), (false, 1), (false, 2), (true, 0), (true, 1), (true, 2), (true, 3)] (fun _ => rfl) (by decide +kernel) (fun o28 o29 o30 => ?_)
        refine j_iincN C (fun x31 => [(4, .int x31), (0, .ref h_), (1, .int p1), (2, .int v24), (3, .int x1), (5, .int x17)]) d0_lowerMarked_176 4 rfl (by decide +kernel) (by decide) (fun _ => rfl) (fun x31 => ?_)
        refine j_goto C d0_lowerMarked_179 ?_
        exact j_sub [1, 2, 3, 4, 0] rfl (hrc15 _ _ _ _ _)
      · refine j_if_eq C d0_lowerMarked_140 ?_ ?_
        · exact hk32 _ _ _ _
        · refine j_aload C d0_lowerMarked_143 0 rfl ?_
          refine j_iload C d0_lowerMarked_144 1 rfl ?_
          refine j_iload C d0_lowerMarked_145 4 rfl ?_
          refine j_callVI4 (As := [.int p1, .int v11]) C d0_lowerMarked_147 mv0_113 (kX0_lowerEnded _ _ tc h_ h_rules h_rules_codes h_words h_words_costs h_words_highs h_words_lows g_plainKnown g_exampleKey g_rules_count c_rules_codes v20 v21 v22 p1 v11) ⟨rfl, rfl, Nat.le_of_ble_eq_true rfl, Nat.le_of_ble_eq_true rfl⟩ rfl 0 rfl [0, 1, 2, 3, 4, 5, 6] rfl rfl rfl (Nat.le_of_ble_eq_true rfl) (fun o33 o34 o35 => [(h_, .inr (0, [.ref h_rules, .ref h_words, g_plainKnown, g_exampleKey])), (h_rules, .inr (6, [.ref h_rules_codes, g_rules_count])), (h_rules_codes, .inl (tc.1, 24, .inl c_rules_codes)), (h_words, .inr (10, [.ref h_words_costs, .ref h_words_highs, .ref h_words_lows])), (h_words_costs, .inl (tc.1, 362, .inl o33)), (h_words_highs, .inl (tc.2.1, 362, .inr (.inl o34))), (h_words_lows, .inl (tc.2.1, 362, .inr (.inl o35)))]) [(true, 0), (true, 1), (true, 2), (true, 3), (true, 4), (true, 5), (true, 6)] (fun _ => rfl) (by decide +kernel) (fun o36 o33 o34 o35 => ?_)
          refine j_join 162 (fun v37 => [(h_, .inr (0, [.ref h_rules, .ref h_words, g_plainKnown, g_exampleKey])), (h_rules, .inr (6, [.ref h_rules_codes, g_rules_count])), (h_rules_codes, .inl (tc.1, 24, .inl c_rules_codes)), (h_words, .inr (10, [.ref h_words_costs, .ref h_words_highs, .ref h_words_lows])), (h_words_costs, .inl (tc.1, 362, .inl o33)), (h_words_highs, .inl (tc.2.1, 362, .inr (.inl o34))), (h_words_lows, .inl (tc.2.1, 362, .inr (.inl o35)))]) (fun v37 => [(0, .ref h_), (1, .int p1), (3, .int x1), (4, .int v11), (5, .int x17)]) (fun v37 => [.int v37]) (fun v37 => ?_) (fun k38 hk38 => ?_)
          · refine j_istore C d0_lowerMarked_162 (by decide) (lv' := [(2, .int v37), (0, .ref h_), (1, .int p1), (3, .int x1), (4, .int v11), (5, .int x17)]) rfl ?_
            exact j_sub [1, 2, 0, 3, 4, 5] rfl (hk32 _ _ _ _)
          · refine j_join 157 (fun v39 => [(h_, .inr (0, [.ref h_rules, .ref h_words, g_plainKnown, g_exampleKey])), (h_rules, .inr (6, [.ref h_rules_codes, g_rules_count])), (h_rules_codes, .inl (tc.1, 24, .inl c_rules_codes)), (h_words, .inr (10, [.ref h_words_costs, .ref h_words_highs, .ref h_words_lows])), (h_words_costs, .inl (tc.1, 362, .inl o33)), (h_words_highs, .inl (tc.2.1, 362, .inr (.inl o34))), (h_words_lows, .inl (tc.2.1, 362, .inr (.inl o35)))]) (fun v39 => [(0, .ref h_), (1, .int p1), (3, .int x1), (4, .int v11), (5, .int x17)]) (fun v39 => []) (fun v39 => ?_) (fun k40 hk40 => ?_)
            · refine j_const C d0_lowerMarked_157 ?_
              refine j_goto C d0_lowerMarked_158 ?_
              exact hk38 _
            · refine j_if_ne C d0_lowerMarked_150 ?_ ?_
              · exact j_sub [0, 1, 3, 4, 5] rfl (hk40 _)
              · refine j_iload C d0_lowerMarked_153 2 rfl ?_
                refine j_if_eq C d0_lowerMarked_154 ?_ ?_
                · refine j_const C d0_lowerMarked_161 ?_
                  exact j_sub [0, 1, 3, 4, 5] rfl (hk38 _)
                · exact j_sub [0, 1, 3, 4, 5] rfl (hk40 _)
    · refine j_if_eq C d0_lowerMarked_53 ?_ ?_
      · exact j_sub [1, 2, 3, 4, 5, 0] rfl (hk41 _ _ _ _)
      · refine j_aload C d0_lowerMarked_56 1 rfl ?_
        refine j_get C d0_lowerMarked_57 fl0_16 0 rfl rfl ?_
        refine j_const C d0_lowerMarked_60 ?_
        refine j_const C d0_lowerMarked_62 ?_
        refine j_callVV3 (As := [.int 73, .int 72]) C d0_lowerMarked_64 mv0_91 (kX10_putCopy _ _ tc 362 h_words h_words_costs h_words_highs h_words_lows v12 v13 v14 73 72) ⟨rfl, rfl, Nat.le_of_ble_eq_true rfl, Nat.le_of_ble_eq_true rfl⟩ rfl 3 rfl [3, 4, 5, 6] rfl rfl rfl (Nat.le_of_ble_eq_true rfl) (fun o42 o43 o44 => [(h_, .inr (0, [.ref h_rules, .ref h_words, g_plainKnown, g_exampleKey])), (h_rules, .inr (6, [.ref h_rules_codes, g_rules_count])), (h_rules_codes, .inl (tc.1, 24, .inl c_rules_codes)), (h_words, .inr (10, [.ref h_words_costs, .ref h_words_highs, .ref h_words_lows])), (h_words_costs, .inl (tc.1, 362, .inl o42)), (h_words_highs, .inl (tc.2.1, 362, .inr (.inl o43))), (h_words_lows, .inl (tc.2.1, 362, .inr (.inl o44)))]) [(false, 0), (false, 1), (false, 2), (true, 0), (true, 1), (true, 2), (true, 3)] (fun _ => rfl) (by decide +kernel) (fun o42 o43 o44 => ?_)
        refine j_aload C d0_lowerMarked_67 1 rfl ?_
        refine j_get C d0_lowerMarked_68 fl0_16 0 rfl rfl ?_
        refine j_const C d0_lowerMarked_71 ?_
        refine j_const C d0_lowerMarked_73 ?_
        refine j_iload C d0_lowerMarked_75 0 rfl ?_
        refine j_iadd C d0_lowerMarked_77 ?_
        refine j_callVV3 (As := [.int 73, .int ((54 : Int32) + x17)]) C d0_lowerMarked_78 mv0_95 (kX10_append _ _ tc 362 h_words h_words_costs h_words_highs h_words_lows o42 o43 o44 73 ((54 : Int32) + x17)) ⟨rfl, rfl, Nat.le_of_ble_eq_true rfl, Nat.le_of_ble_eq_true rfl⟩ rfl 3 rfl [3, 4, 5, 6] rfl rfl rfl (Nat.le_of_ble_eq_true rfl) (fun o45 o46 o47 => [(h_, .inr (0, [.ref h_rules, .ref h_words, g_plainKnown, g_exampleKey])), (h_rules, .inr (6, [.ref h_rules_codes, g_rules_count])), (h_rules_codes, .inl (tc.1, 24, .inl c_rules_codes)), (h_words, .inr (10, [.ref h_words_costs, .ref h_words_highs, .ref h_words_lows])), (h_words_costs, .inl (tc.1, 362, .inl o45)), (h_words_highs, .inl (tc.2.1, 362, .inr (.inl o46))), (h_words_lows, .inl (tc.2.1, 362, .inr (.inl o47)))]) [(false, 0), (false, 1), (false, 2), (true, 0), (true, 1), (true, 2), (true, 3)] (fun _ => rfl) (by decide +kernel) (fun o45 o46 o47 => ?_)
        refine j_aload C d0_lowerMarked_81 1 rfl ?_
        refine j_get C d0_lowerMarked_82 fl0_16 0 rfl rfl ?_
        refine j_const C d0_lowerMarked_85 ?_
        refine j_iload C d0_lowerMarked_87 2 rfl ?_
        refine j_iload C d0_lowerMarked_88 5 rfl ?_
        refine j_const C d0_lowerMarked_90 ?_
        refine j_iadd C d0_lowerMarked_91 ?_
        refine j_callSI0 (As := [.int p1, .int (v11 + (1 : Int32))]) C d0_lowerMarked_92 ms0_74 (kX0_plainTail _ _ tc p1 (v11 + (1 : Int32))) ⟨rfl, rfl, Nat.le_of_ble_eq_true rfl, Nat.le_of_ble_eq_true rfl⟩ rfl [] rfl rfl rfl (Nat.le_of_ble_eq_true rfl) (fun x48 => ?_)
        refine j_callVV3 (As := [.int 73, .int x48]) C d0_lowerMarked_95 mv0_95 (kX10_append _ _ tc 362 h_words h_words_costs h_words_highs h_words_lows o45 o46 o47 73 x48) ⟨rfl, rfl, Nat.le_of_ble_eq_true rfl, Nat.le_of_ble_eq_true rfl⟩ rfl 3 rfl [3, 4, 5, 6] rfl rfl rfl (Nat.le_of_ble_eq_true rfl) (fun o49 o50 o51 => [(h_, .inr (0, [.ref h_rules, .ref h_words, g_plainKnown, g_exampleKey])), (h_rules, .inr (6, [.ref h_rules_codes, g_rules_count])), (h_rules_codes, .inl (tc.1, 24, .inl c_rules_codes)), (h_words, .inr (10, [.ref h_words_costs, .ref h_words_highs, .ref h_words_lows])), (h_words_costs, .inl (tc.1, 362, .inl o49)), (h_words_highs, .inl (tc.2.1, 362, .inr (.inl o50))), (h_words_lows, .inl (tc.2.1, 362, .inr (.inl o51)))]) [(false, 0), (false, 1), (false, 2), (true, 0), (true, 1), (true, 2), (true, 3)] (fun _ => rfl) (by decide +kernel) (fun o49 o50 o51 => ?_)
        refine j_aload C d0_lowerMarked_98 1 rfl ?_
        refine j_get C d0_lowerMarked_99 fl0_16 0 rfl rfl ?_
        refine j_const C d0_lowerMarked_102 ?_
        refine j_aload C d0_lowerMarked_104 1 rfl ?_
        refine j_iload C d0_lowerMarked_105 2 rfl ?_
        refine j_callVI0 (As := [.int p1]) C d0_lowerMarked_106 mv0_71 (kX0_leftSymbol _ _ tc h_ h_rules h_rules_codes (.ref h_words) g_plainKnown g_exampleKey g_rules_count c_rules_codes p1) ⟨rfl, rfl, Nat.le_of_ble_eq_true rfl, Nat.le_of_ble_eq_true rfl⟩ rfl 0 rfl [0, 1, 2] rfl rfl rfl (Nat.le_of_ble_eq_true rfl) (fun x52 => ?_)
        refine j_iadd C d0_lowerMarked_109 ?_
        refine j_const C d0_lowerMarked_110 ?_
        refine j_callVI4 (As := [.int ((54 : Int32) + x52), .int 73]) C d0_lowerMarked_112 mv0_78 (kX10_lower _ _ tc 362 h_words h_words_costs h_words_highs h_words_lows o49 o50 o51 ((54 : Int32) + x52) 73) ⟨rfl, rfl, Nat.le_of_ble_eq_true rfl, Nat.le_of_ble_eq_true rfl⟩ rfl 3 rfl [3, 4, 5, 6] rfl rfl rfl (Nat.le_of_ble_eq_true rfl) (fun o53 o54 o55 => [(h_, .inr (0, [.ref h_rules, .ref h_words, g_plainKnown, g_exampleKey])), (h_rules, .inr (6, [.ref h_rules_codes, g_rules_count])), (h_rules_codes, .inl (tc.1, 24, .inl c_rules_codes)), (h_words, .inr (10, [.ref h_words_costs, .ref h_words_highs, .ref h_words_lows])), (h_words_costs, .inl (tc.1, 362, .inl o53)), (h_words_highs, .inl (tc.2.1, 362, .inr (.inl o54))), (h_words_lows, .inl (tc.2.1, 362, .inr (.inl o55)))]) [(false, 0), (false, 1), (false, 2), (true, 0), (true, 1), (true, 2), (true, 3)] (fun _ => rfl) (by decide +kernel) (fun o56 o53 o54 o55 => ?_)
        refine j_join 127 (fun v57 => [(h_, .inr (0, [.ref h_rules, .ref h_words, g_plainKnown, g_exampleKey])), (h_rules, .inr (6, [.ref h_rules_codes, g_rules_count])), (h_rules_codes, .inl (tc.1, 24, .inl c_rules_codes)), (h_words, .inr (10, [.ref h_words_costs, .ref h_words_highs, .ref h_words_lows])), (h_words_costs, .inl (tc.1, 362, .inl o53)), (h_words_highs, .inl (tc.2.1, 362, .inr (.inl o54))), (h_words_lows, .inl (tc.2.1, 362, .inr (.inl o55)))]) (fun v57 => [(0, .ref h_), (1, .int p1), (3, .int x1), (4, .int v11), (5, .int x17)]) (fun v57 => [.int v57]) (fun v57 => ?_) (fun k58 hk58 => ?_)
        · refine j_istore C d0_lowerMarked_127 (by decide) (lv' := [(2, .int v57), (0, .ref h_), (1, .int p1), (3, .int x1), (4, .int v11), (5, .int x17)]) rfl ?_
          exact j_sub [1, 2, 0, 3, 4, 5] rfl (hk41 _ _ _ _)
        · refine j_join 122 (fun v59 => [(h_, .inr (0, [.ref h_rules, .ref h_words, g_plainKnown, g_exampleKey])), (h_rules, .inr (6, [.ref h_rules_codes, g_rules_count])), (h_rules_codes, .inl (tc.1, 24, .inl c_rules_codes)), (h_words, .inr (10, [.ref h_words_costs, .ref h_words_highs, .ref h_words_lows])), (h_words_costs, .inl (tc.1, 362, .inl o53)), (h_words_highs, .inl (tc.2.1, 362, .inr (.inl o54))), (h_words_lows, .inl (tc.2.1, 362, .inr (.inl o55)))]) (fun v59 => [(0, .ref h_), (1, .int p1), (3, .int x1), (4, .int v11), (5, .int x17)]) (fun v59 => []) (fun v59 => ?_) (fun k60 hk60 => ?_)
          · refine j_const C d0_lowerMarked_122 ?_
            refine j_goto C d0_lowerMarked_123 ?_
            exact hk58 _
          · refine j_if_ne C d0_lowerMarked_115 ?_ ?_
            · exact j_sub [1, 2, 4, 5, 0] rfl (hk60 _)
            · refine j_iload C d0_lowerMarked_118 3 rfl ?_
              refine j_if_eq C d0_lowerMarked_119 ?_ ?_
              · refine j_const C d0_lowerMarked_126 ?_
                exact j_sub [1, 2, 4, 5, 0] rfl (hk58 _)
              · exact j_sub [1, 2, 4, 5, 0] rfl (hk60 _)

set_option maxHeartbeats 4000000 in
set_option maxRecDepth 100000 in
theorem kX0_lowerMarked (l : Launch) (D : va_G) (tc : jTC) (N : Nat) (h_ h_rules h_rules_codes h_words h_words_costs h_words_highs h_words_lows : Nat) (g_plainKnown g_exampleKey g_rules_count : Value) (c_rules_codes : (Nat → Int32)) (c_words_costs : (Nat → Int32)) (c_words_highs : (Nat → Int64)) (c_words_lows : (Nat → Int64)) (p1 : Int32) : ctI l D tc yX0_lowerMarked (Cond.code yX0_lowerMarked cX0_lowerMarked 6 (some .boolean) :: jtb) ({ frames := 3, cells := 0, slots := 0, locals := 72 } : Room) [.ref h_, .int p1] [(h_, .inr (0, [.ref h_rules, .ref h_words, g_plainKnown, g_exampleKey])), (h_rules, .inr (6, [.ref h_rules_codes, g_rules_count])), (h_rules_codes, .inl (tc.1, 24, .inl c_rules_codes)), (h_words, .inr (10, [.ref h_words_costs, .ref h_words_highs, .ref h_words_lows])), (h_words_costs, .inl (tc.1, 362, .inl c_words_costs)), (h_words_highs, .inl (tc.2.1, 362, .inr (.inl c_words_highs))), (h_words_lows, .inl (tc.2.1, 362, .inr (.inl c_words_lows)))] (fX0_lowerMarked N c_rules_codes c_words_costs c_words_highs c_words_lows p1) (fun (u : (Nat → Int32) × (Nat → Int64) × (Nat → Int64)) => [(h_, .inr (0, [.ref h_rules, .ref h_words, g_plainKnown, g_exampleKey])), (h_rules, .inr (6, [.ref h_rules_codes, g_rules_count])), (h_rules_codes, .inl (tc.1, 24, .inl c_rules_codes)), (h_words, .inr (10, [.ref h_words_costs, .ref h_words_highs, .ref h_words_lows])), (h_words_costs, .inl (tc.1, 362, .inl u.1)), (h_words_highs, .inl (tc.2.1, 362, .inr (.inl u.2.1))), (h_words_lows, .inl (tc.2.1, 362, .inr (.inl u.2.2)))]) := by
  refine ctI_of (lv0 := [(0, .ref h_), (1, .int p1)]) (by decide +kernel) (Nat.le_of_ble_eq_true rfl) rfl (fun X C => ?_)
  unfold fX0_lowerMarked
  refine j_const C d0_lowerMarked_0 ?_
  refine j_istore C d0_lowerMarked_1 (by decide) (lv' := [(2, .int 0), (0, .ref h_), (1, .int p1)]) rfl ?_
  refine j_aload C d0_lowerMarked_2 1 rfl ?_
  refine j_get C d0_lowerMarked_3 fl0_24 0 rfl rfl ?_
  refine j_get C d0_lowerMarked_6 fl0_47 1 rfl rfl ?_
  refine j_iload C d0_lowerMarked_9 2 rfl ?_
  refine j_iald C d0_lowerMarked_10 2 rfl (fun x1 => ?_)
  refine j_istore C d0_lowerMarked_11 (by decide) (lv' := [(3, .int x1), (2, .int 0), (0, .ref h_), (1, .int p1)]) rfl ?_
  refine j_aload C d0_lowerMarked_12 2 rfl ?_
  refine j_get C d0_lowerMarked_13 fl0_16 0 rfl rfl ?_
  refine j_const C d0_lowerMarked_16 ?_
  refine j_callVV3 (As := [.int 72]) C d0_lowerMarked_18 mv0_85 (kX10_putEmpty _ _ tc 362 h_words h_words_costs h_words_highs h_words_lows c_words_costs c_words_highs c_words_lows 72) ⟨rfl, rfl, Nat.le_of_ble_eq_true rfl, Nat.le_of_ble_eq_true rfl⟩ rfl 3 rfl [3, 4, 5, 6] rfl rfl rfl (Nat.le_of_ble_eq_true rfl) (fun o2 o3 o4 => [(h_, .inr (0, [.ref h_rules, .ref h_words, g_plainKnown, g_exampleKey])), (h_rules, .inr (6, [.ref h_rules_codes, g_rules_count])), (h_rules_codes, .inl (tc.1, 24, .inl c_rules_codes)), (h_words, .inr (10, [.ref h_words_costs, .ref h_words_highs, .ref h_words_lows])), (h_words_costs, .inl (tc.1, 362, .inl o2)), (h_words_highs, .inl (tc.2.1, 362, .inr (.inl o3))), (h_words_lows, .inl (tc.2.1, 362, .inr (.inl o4)))]) [(false, 0), (false, 1), (false, 2), (true, 0), (true, 1), (true, 2), (true, 3)] (fun _ => rfl) (by decide +kernel) (fun o2 o3 o4 => ?_)
  refine j_const C d0_lowerMarked_21 ?_
  refine j_istore C d0_lowerMarked_22 (by decide) (lv' := [(4, .int 0), (3, .int x1), (2, .int 0), (0, .ref h_), (1, .int p1)]) rfl ?_
  refine j_join4 182 (fun v5 v6 v7 v8 => [(h_, .inr (0, [.ref h_rules, .ref h_words, g_plainKnown, g_exampleKey])), (h_rules, .inr (6, [.ref h_rules_codes, g_rules_count])), (h_rules_codes, .inl (tc.1, 24, .inl c_rules_codes)), (h_words, .inr (10, [.ref h_words_costs, .ref h_words_highs, .ref h_words_lows])), (h_words_costs, .inl (tc.1, 362, .inl v6)), (h_words_highs, .inl (tc.2.1, 362, .inr (.inl v7))), (h_words_lows, .inl (tc.2.1, 362, .inr (.inl v8)))]) (fun v5 v6 v7 v8 => [(2, .int v5)]) (fun v5 v6 v7 v8 => []) (fun v5 v6 v7 v8 => ?_) (fun k9 hk9 => ?_)
  · refine j_iload C d0_lowerMarked_182 0 rfl ?_
    refine j_gz (fun hz => ?_)
    exact j_zret C hz d0_lowerMarked_183 rfl
  · exact j_sub [3, 4, 2, 1, 0] rfl (j_loop5 (fun v10 v11 v12 v13 v14 => [(h_, .inr (0, [.ref h_rules, .ref h_words, g_plainKnown, g_exampleKey])), (h_rules, .inr (6, [.ref h_rules_codes, g_rules_count])), (h_rules_codes, .inl (tc.1, 24, .inl c_rules_codes)), (h_words, .inr (10, [.ref h_words_costs, .ref h_words_highs, .ref h_words_lows])), (h_words_costs, .inl (tc.1, 362, .inl v12)), (h_words_highs, .inl (tc.2.1, 362, .inr (.inl v13))), (h_words_lows, .inl (tc.2.1, 362, .inr (.inl v14)))]) (fun v10 v11 v12 v13 v14 => [(0, .ref h_), (1, .int p1), (2, .int v10), (3, .int x1), (4, .int v11)]) (fun rc15 hrc15 v10 v11 v12 v13 v14 => wX0_lowerMarked_24 C h_ h_rules h_rules_codes h_words h_words_costs h_words_highs h_words_lows g_plainKnown g_exampleKey g_rules_count p1 c_rules_codes x1 k9 hk9 rc15 hrc15 v10 v11 v12 v13 v14) N _ _ _ _ _)

theorem d0_findMarked_0 : jda cX0_findMarked 0 0 1 := Or.inl ⟨0, by decide +kernel⟩
theorem d0_findMarked_1 : jdk cX0_findMarked 1 36 3 := Or.inr (Or.inl ⟨36, by decide +kernel⟩)
theorem d0_findMarked_3 : jd cX0_findMarked 3 (.invokevirtual 58) 3 6 := by decide +kernel
theorem d0_findMarked_6 : jda cX0_findMarked 6 0 7 := Or.inl ⟨0, by decide +kernel⟩
theorem d0_findMarked_7 : jdk cX0_findMarked 7 54 9 := Or.inr (Or.inl ⟨54, by decide +kernel⟩)
theorem d0_findMarked_9 : jd cX0_findMarked 9 (.invokevirtual 58) 3 12 := by decide +kernel
theorem d0_findMarked_12 : jda cX0_findMarked 12 0 13 := Or.inl ⟨0, by decide +kernel⟩
theorem d0_findMarked_13 : jd cX0_findMarked 13 (.getfield 16) 3 16 := by decide +kernel
theorem d0_findMarked_16 : jdi cX0_findMarked 16 1 17 := Or.inl ⟨1, by decide +kernel⟩
theorem d0_findMarked_17 : jdk cX0_findMarked 17 0 18 := Or.inl ⟨0, by decide +kernel⟩
theorem d0_findMarked_18 : jd cX0_findMarked 18 (.invokestatic 74) 3 21 := by decide +kernel
theorem d0_findMarked_21 : jd cX0_findMarked 21 (.invokevirtual 104) 3 24 := by decide +kernel
theorem d0_findMarked_24 : jdb cX0_findMarked 24 (.ifCond .eq 18) 18 42 27 := by decide +kernel
theorem d0_findMarked_27 : jda cX0_findMarked 27 0 28 := Or.inl ⟨0, by decide +kernel⟩
theorem d0_findMarked_28 : jd cX0_findMarked 28 (.getfield 16) 3 31 := by decide +kernel
theorem d0_findMarked_31 : jdk cX0_findMarked 31 36 33 := Or.inr (Or.inl ⟨36, by decide +kernel⟩)
theorem d0_findMarked_33 : jda cX0_findMarked 33 0 34 := Or.inl ⟨0, by decide +kernel⟩
theorem d0_findMarked_34 : jdi cX0_findMarked 34 1 35 := Or.inl ⟨1, by decide +kernel⟩
theorem d0_findMarked_35 : jd cX0_findMarked 35 (.invokevirtual 71) 3 38 := by decide +kernel
theorem d0_findMarked_38 : jd cX0_findMarked 38 (.iadd) 1 39 := by decide +kernel
theorem d0_findMarked_39 : jd cX0_findMarked 39 (.invokevirtual 85) 3 42 := by decide +kernel
theorem d0_findMarked_42 : jda cX0_findMarked 42 0 43 := Or.inl ⟨0, by decide +kernel⟩
theorem d0_findMarked_43 : jd cX0_findMarked 43 (.getfield 16) 3 46 := by decide +kernel
theorem d0_findMarked_46 : jdk cX0_findMarked 46 54 48 := Or.inr (Or.inl ⟨54, by decide +kernel⟩)
theorem d0_findMarked_48 : jda cX0_findMarked 48 0 49 := Or.inl ⟨0, by decide +kernel⟩
theorem d0_findMarked_49 : jdi cX0_findMarked 49 1 50 := Or.inl ⟨1, by decide +kernel⟩
theorem d0_findMarked_50 : jd cX0_findMarked 50 (.invokevirtual 71) 3 53 := by decide +kernel
theorem d0_findMarked_53 : jd cX0_findMarked 53 (.iadd) 1 54 := by decide +kernel
theorem d0_findMarked_54 : jdi cX0_findMarked 54 1 55 := Or.inl ⟨1, by decide +kernel⟩
theorem d0_findMarked_55 : jdk cX0_findMarked 55 0 56 := Or.inl ⟨0, by decide +kernel⟩
theorem d0_findMarked_56 : jd cX0_findMarked 56 (.invokestatic 101) 3 59 := by decide +kernel
theorem d0_findMarked_59 : jd cX0_findMarked 59 (.invokevirtual 91) 3 62 := by decide +kernel
theorem d0_findMarked_62 : jdk cX0_findMarked 62 1 63 := Or.inl ⟨1, by decide +kernel⟩
theorem d0_findMarked_63 : jds cX0_findMarked 63 2 64 := Or.inl ⟨2, by decide +kernel⟩
theorem d0_findMarked_64 : jdk cX0_findMarked 64 0 65 := Or.inl ⟨0, by decide +kernel⟩
theorem d0_findMarked_65 : jds cX0_findMarked 65 3 66 := Or.inl ⟨3, by decide +kernel⟩
theorem d0_findMarked_66 : jdi cX0_findMarked 66 3 67 := Or.inl ⟨3, by decide +kernel⟩
theorem d0_findMarked_67 : jdk cX0_findMarked 67 1000 70 := Or.inr (Or.inr ⟨1000, by decide +kernel⟩)
theorem d0_findMarked_70 : jdb cX0_findMarked 70 (.if_icmp .ge 55) 55 125 73 := by decide +kernel
theorem d0_findMarked_73 : jdi cX0_findMarked 73 2 74 := Or.inl ⟨2, by decide +kernel⟩
theorem d0_findMarked_74 : jdb cX0_findMarked 74 (.ifCond .eq 51) 51 125 77 := by decide +kernel
theorem d0_findMarked_77 : jdk cX0_findMarked 77 0 78 := Or.inl ⟨0, by decide +kernel⟩
theorem d0_findMarked_78 : jds cX0_findMarked 78 2 79 := Or.inl ⟨2, by decide +kernel⟩
theorem d0_findMarked_79 : jdk cX0_findMarked 79 0 80 := Or.inl ⟨0, by decide +kernel⟩
theorem d0_findMarked_80 : jds cX0_findMarked 80 4 82 := Or.inr (by decide +kernel)
theorem d0_findMarked_82 : jdi cX0_findMarked 82 4 84 := Or.inr (by decide +kernel)
theorem d0_findMarked_84 : jda cX0_findMarked 84 0 85 := Or.inl ⟨0, by decide +kernel⟩
theorem d0_findMarked_85 : jd cX0_findMarked 85 (.getfield 24) 3 88 := by decide +kernel
theorem d0_findMarked_88 : jd cX0_findMarked 88 (.getfield 65) 3 91 := by decide +kernel
theorem d0_findMarked_91 : jdb cX0_findMarked 91 (.if_icmp .ge 28) 28 119 94 := by decide +kernel
theorem d0_findMarked_94 : jda cX0_findMarked 94 0 95 := Or.inl ⟨0, by decide +kernel⟩
theorem d0_findMarked_95 : jdi cX0_findMarked 95 4 97 := Or.inr (by decide +kernel)
theorem d0_findMarked_97 : jd cX0_findMarked 97 (.invokevirtual 107) 3 100 := by decide +kernel
theorem d0_findMarked_100 : jdb cX0_findMarked 100 (.ifCond .ne 7) 7 107 103 := by decide +kernel
theorem d0_findMarked_103 : jdi cX0_findMarked 103 2 104 := Or.inl ⟨2, by decide +kernel⟩
theorem d0_findMarked_104 : jdb cX0_findMarked 104 (.ifCond .eq 7) 7 111 107 := by decide +kernel
theorem d0_findMarked_107 : jdk cX0_findMarked 107 1 108 := Or.inl ⟨1, by decide +kernel⟩
theorem d0_findMarked_108 : jdb cX0_findMarked 108 (.goto 4) 4 112 111 := by decide +kernel
theorem d0_findMarked_111 : jdk cX0_findMarked 111 0 112 := Or.inl ⟨0, by decide +kernel⟩
theorem d0_findMarked_112 : jds cX0_findMarked 112 2 113 := Or.inl ⟨2, by decide +kernel⟩
theorem d0_findMarked_113 : jd cX0_findMarked 113 (.iinc 4 1) 3 116 := by decide +kernel
theorem d0_findMarked_116 : jdb cX0_findMarked 116 (.goto (-34)) (-34) 82 119 := by decide +kernel
theorem d0_findMarked_119 : jd cX0_findMarked 119 (.iinc 3 1) 3 122 := by decide +kernel
theorem d0_findMarked_122 : jdb cX0_findMarked 122 (.goto (-56)) (-56) 66 125 := by decide +kernel
theorem d0_findMarked_125 : decode cX0_findMarked 125 = .ok (.return_, 1) := by decide +kernel
set_option maxHeartbeats 4000000 in
set_option maxRecDepth 100000 in
theorem wX0_findMarked_82 {X : jC} {tc : jTC} (C : jx X cX0_findMarked 5 RX0 none tc ({ frames := 4, cells := 0, slots := 0, locals := 97 } : Room)) (N : Nat) (h_ h_rules h_rules_codes h_words h_words_costs h_words_highs h_words_lows : Nat) (g_plainKnown g_exampleKey : Value) (c_rules_codes : (Nat → Int32)) (c_rules_count : Int32) (v22 : Int32) (k32 : (Int32 → (Nat → Int32) → (Nat → Int64) → (Nat → Int64) → Option ((Nat → Int32) × (Nat → Int64) × (Nat → Int64)))) (hk32 : ∀ (v48 : Int32) (v49 : (Nat → Int32)) (v50 : (Nat → Int64)) (v51 : (Nat → Int64)), jo X 5 (0, 0) (jQV X (fun (u : (Nat → Int32) × (Nat → Int64) × (Nat → Int64)) => [(h_, .inr (0, [.ref h_rules, .ref h_words, g_plainKnown, g_exampleKey])), (h_rules, .inr (6, [.ref h_rules_codes, .int c_rules_count])), (h_rules_codes, .inl (tc.1, 24, .inl c_rules_codes)), (h_words, .inr (10, [.ref h_words_costs, .ref h_words_highs, .ref h_words_lows])), (h_words_costs, .inl (tc.1, 362, .inl u.1)), (h_words_highs, .inl (tc.2.1, 362, .inr (.inl u.2.1))), (h_words_lows, .inl (tc.2.1, 362, .inr (.inl u.2.2)))])) (k32 v48 v49 v50 v51) [(h_, .inr (0, [.ref h_rules, .ref h_words, g_plainKnown, g_exampleKey])), (h_rules, .inr (6, [.ref h_rules_codes, .int c_rules_count])), (h_rules_codes, .inl (tc.1, 24, .inl c_rules_codes)), (h_words, .inr (10, [.ref h_words_costs, .ref h_words_highs, .ref h_words_lows])), (h_words_costs, .inl (tc.1, 362, .inl v49)), (h_words_highs, .inl (tc.2.1, 362, .inr (.inl v50))), (h_words_lows, .inl (tc.2.1, 362, .inr (.inl v51)))] 119 [(0, .ref h_), (2, .int v48), (3, .int v22)] []) (rc38 : Int32 → Int32 → (Nat → Int32) → (Nat → Int64) → (Nat → Int64) → Option ((Nat → Int32) × (Nat → Int64) × (Nat → Int64))) (hrc38 : ∀ (v33 : Int32) (v34 : Int32) (v35 : (Nat → Int32)) (v36 : (Nat → Int64)) (v37 : (Nat → Int64)), jo X 5 (0, 0) (jQV X (fun (u : (Nat → Int32) × (Nat → Int64) × (Nat → Int64)) => [(h_, .inr (0, [.ref h_rules, .ref h_words, g_plainKnown, g_exampleKey])), (h_rules, .inr (6, [.ref h_rules_codes, .int c_rules_count])), (h_rules_codes, .inl (tc.1, 24, .inl c_rules_codes)), (h_words, .inr (10, [.ref h_words_costs, .ref h_words_highs, .ref h_words_lows])), (h_words_costs, .inl (tc.1, 362, .inl u.1)), (h_words_highs, .inl (tc.2.1, 362, .inr (.inl u.2.1))), (h_words_lows, .inl (tc.2.1, 362, .inr (.inl u.2.2)))])) (rc38 v33 v34 v35 v36 v37) [(h_, .inr (0, [.ref h_rules, .ref h_words, g_plainKnown, g_exampleKey])), (h_rules, .inr (6, [.ref h_rules_codes, .int c_rules_count])), (h_rules_codes, .inl (tc.1, 24, .inl c_rules_codes)), (h_words, .inr (10, [.ref h_words_costs, .ref h_words_highs, .ref h_words_lows])), (h_words_costs, .inl (tc.1, 362, .inl v35)), (h_words_highs, .inl (tc.2.1, 362, .inr (.inl v36))), (h_words_lows, .inl (tc.2.1, 362, .inr (.inl v37)))] 82 [(0, .ref h_), (2, .int v33), (3, .int v22), (4, .int v34)] []) (v33 : Int32) (v34 : Int32) (v35 : (Nat → Int32)) (v36 : (Nat → Int64)) (v37 : (Nat → Int64)) : jo X 5 (0, 0) (jQV X (fun (u : (Nat → Int32) × (Nat → Int64) × (Nat → Int64)) => [(h_, .inr (0, [.ref h_rules, .ref h_words, g_plainKnown, g_exampleKey])), (h_rules, .inr (6, [.ref h_rules_codes, .int c_rules_count])), (h_rules_codes, .inl (tc.1, 24, .inl c_rules_codes)), (h_words, .inr (10, [.ref h_words_costs, .ref h_words_highs, .ref h_words_lows])), (h_words_costs, .inl (tc.1, 362, .inl u.1)), (h_words_highs, .inl (tc.2.1, 362, .inr (.inl u.2.1))), (h_words_lows, .inl (tc.2.1, 362, .inr (.inl u.2.2)))])) (bX0_findMarked_82 N c_rules_codes c_rules_count k32 rc38 v33 v34 v35 v36 v37) [(h_, .inr (0, [.ref h_rules, .ref h_words, g_plainKnown, g_exampleKey])), (h_rules, .inr (6, [.ref h_rules_codes, .int c_rules_count])), (h_rules_codes, .inl (tc.1, 24, .inl c_rules_codes)), (h_words, .inr (10, [.ref h_words_costs, .ref h_words_highs, .ref h_words_lows])), (h_words_costs, .inl (tc.1, 362, .inl v35)), (h_words_highs, .inl (tc.2.1, 362, .inr (.inl v36))), (h_words_lows, .inl (tc.2.1, 362, .inr (.inl v37)))] 82 [(0, .ref h_), (2, .int v33), (3, .int v22), (4, .int v34)] [] := by
  unfold bX0_findMarked_82
  refine j_iload C d0_findMarked_82 3 rfl ?_
  refine j_aload C d0_findMarked_84 0 rfl ?_
  refine j_get C d0_findMarked_85 fl0_24 0 rfl rfl ?_
  refine j_get C d0_findMarked_88 fl0_65 1 rfl rfl ?_
  refine j_icmp_ge C d0_findMarked_91 ?_ ?_
  · exact j_sub [0, 1, 2] rfl (hk32 _ _ _ _)
  · refine j_aload C d0_findMarked_94 0 rfl ?_
    refine j_iload C d0_findMarked_95 3 rfl ?_
    refine j_callVI4 (As := [.int v34]) C d0_findMarked_97 mv0_107 (kX0_lowerMarked _ _ tc N h_ h_rules h_rules_codes h_words h_words_costs h_words_highs h_words_lows g_plainKnown g_exampleKey (.int c_rules_count) c_rules_codes v35 v36 v37 v34) ⟨rfl, rfl, Nat.le_of_ble_eq_true rfl, Nat.le_of_ble_eq_true rfl⟩ rfl 0 rfl [0, 1, 2, 3, 4, 5, 6] rfl rfl rfl (Nat.le_of_ble_eq_true rfl) (fun o39 o40 o41 => [(h_, .inr (0, [.ref h_rules, .ref h_words, g_plainKnown, g_exampleKey])), (h_rules, .inr (6, [.ref h_rules_codes, .int c_rules_count])), (h_rules_codes, .inl (tc.1, 24, .inl c_rules_codes)), (h_words, .inr (10, [.ref h_words_costs, .ref h_words_highs, .ref h_words_lows])), (h_words_costs, .inl (tc.1, 362, .inl o39)), (h_words_highs, .inl (tc.2.1, 362, .inr (.inl o40))), (h_words_lows, .inl (tc.2.1, 362, .inr (.inl o41)))]) [(true, 0), (true, 1), (true, 2), (true, 3), (true, 4), (true, 5), (true, 6)] (fun _ => rfl) (by decide +kernel) (fun o42 o39 o40 o41 => ?_)
    refine j_join 112 (fun v43 => [(h_, .inr (0, [.ref h_rules, .ref h_words, g_plainKnown, g_exampleKey])), (h_rules, .inr (6, [.ref h_rules_codes, .int c_rules_count])), (h_rules_codes, .inl (tc.1, 24, .inl c_rules_codes)), (h_words, .inr (10, [.ref h_words_costs, .ref h_words_highs, .ref h_words_lows])), (h_words_costs, .inl (tc.1, 362, .inl o39)), (h_words_highs, .inl (tc.2.1, 362, .inr (.inl o40))), (h_words_lows, .inl (tc.2.1, 362, .inr (.inl o41)))]) (fun v43 => [(0, .ref h_), (3, .int v22), (4, .int v34)]) (fun v43 => [.int v43]) (fun v43 => ?_) (fun k45 hk45 => ?_)
    · refine j_istore C d0_findMarked_112 (by decide) (lv' := [(2, .int v43), (0, .ref h_), (3, .int v22), (4, .int v34)]) rfl ?_
      refine j_iincN C (fun x44 => [(4, .int x44), (2, .int v43), (0, .ref h_), (3, .int v22)]) d0_findMarked_113 3 rfl (by decide +kernel) (by decide) (fun _ => rfl) (fun x44 => ?_)
      refine j_goto C d0_findMarked_116 ?_
      exact j_sub [2, 1, 3, 0] rfl (hrc38 _ _ _ _ _)
    · refine j_join 107 (fun v46 => [(h_, .inr (0, [.ref h_rules, .ref h_words, g_plainKnown, g_exampleKey])), (h_rules, .inr (6, [.ref h_rules_codes, .int c_rules_count])), (h_rules_codes, .inl (tc.1, 24, .inl c_rules_codes)), (h_words, .inr (10, [.ref h_words_costs, .ref h_words_highs, .ref h_words_lows])), (h_words_costs, .inl (tc.1, 362, .inl o39)), (h_words_highs, .inl (tc.2.1, 362, .inr (.inl o40))), (h_words_lows, .inl (tc.2.1, 362, .inr (.inl o41)))]) (fun v46 => [(0, .ref h_), (3, .int v22), (4, .int v34)]) (fun v46 => []) (fun v46 => ?_) (fun k47 hk47 => ?_)
      · refine j_const C d0_findMarked_107 ?_
        refine j_goto C d0_findMarked_108 ?_
        exact hk45 _
      · refine j_if_ne C d0_findMarked_100 ?_ ?_
        · exact j_sub [0, 2, 3] rfl (hk47 _)
        · refine j_iload C d0_findMarked_103 1 rfl ?_
          refine j_if_eq C d0_findMarked_104 ?_ ?_
          · refine j_const C d0_findMarked_111 ?_
            exact j_sub [0, 2, 3] rfl (hk45 _)
          · exact j_sub [0, 2, 3] rfl (hk47 _)

set_option maxHeartbeats 4000000 in
set_option maxRecDepth 100000 in
theorem wX0_findMarked_66 {X : jC} {tc : jTC} (C : jx X cX0_findMarked 5 RX0 none tc ({ frames := 4, cells := 0, slots := 0, locals := 97 } : Room)) (N : Nat) (h_ h_rules h_rules_codes h_words h_words_costs h_words_highs h_words_lows : Nat) (g_plainKnown g_exampleKey : Value) (c_rules_codes : (Nat → Int32)) (c_rules_count : Int32) (k20 : ((Nat → Int32) → (Nat → Int64) → (Nat → Int64) → Option ((Nat → Int32) × (Nat → Int64) × (Nat → Int64)))) (hk20 : ∀ (v52 : (Nat → Int32)) (v53 : (Nat → Int64)) (v54 : (Nat → Int64)), jo X 5 (0, 0) (jQV X (fun (u : (Nat → Int32) × (Nat → Int64) × (Nat → Int64)) => [(h_, .inr (0, [.ref h_rules, .ref h_words, g_plainKnown, g_exampleKey])), (h_rules, .inr (6, [.ref h_rules_codes, .int c_rules_count])), (h_rules_codes, .inl (tc.1, 24, .inl c_rules_codes)), (h_words, .inr (10, [.ref h_words_costs, .ref h_words_highs, .ref h_words_lows])), (h_words_costs, .inl (tc.1, 362, .inl u.1)), (h_words_highs, .inl (tc.2.1, 362, .inr (.inl u.2.1))), (h_words_lows, .inl (tc.2.1, 362, .inr (.inl u.2.2)))])) (k20 v52 v53 v54) [(h_, .inr (0, [.ref h_rules, .ref h_words, g_plainKnown, g_exampleKey])), (h_rules, .inr (6, [.ref h_rules_codes, .int c_rules_count])), (h_rules_codes, .inl (tc.1, 24, .inl c_rules_codes)), (h_words, .inr (10, [.ref h_words_costs, .ref h_words_highs, .ref h_words_lows])), (h_words_costs, .inl (tc.1, 362, .inl v52)), (h_words_highs, .inl (tc.2.1, 362, .inr (.inl v53))), (h_words_lows, .inl (tc.2.1, 362, .inr (.inl v54)))] 125 [] []) (rc26 : Int32 → Int32 → (Nat → Int32) → (Nat → Int64) → (Nat → Int64) → Option ((Nat → Int32) × (Nat → Int64) × (Nat → Int64))) (hrc26 : ∀ (v21 : Int32) (v22 : Int32) (v23 : (Nat → Int32)) (v24 : (Nat → Int64)) (v25 : (Nat → Int64)), jo X 5 (0, 0) (jQV X (fun (u : (Nat → Int32) × (Nat → Int64) × (Nat → Int64)) => [(h_, .inr (0, [.ref h_rules, .ref h_words, g_plainKnown, g_exampleKey])), (h_rules, .inr (6, [.ref h_rules_codes, .int c_rules_count])), (h_rules_codes, .inl (tc.1, 24, .inl c_rules_codes)), (h_words, .inr (10, [.ref h_words_costs, .ref h_words_highs, .ref h_words_lows])), (h_words_costs, .inl (tc.1, 362, .inl u.1)), (h_words_highs, .inl (tc.2.1, 362, .inr (.inl u.2.1))), (h_words_lows, .inl (tc.2.1, 362, .inr (.inl u.2.2)))])) (rc26 v21 v22 v23 v24 v25) [(h_, .inr (0, [.ref h_rules, .ref h_words, g_plainKnown, g_exampleKey])), (h_rules, .inr (6, [.ref h_rules_codes, .int c_rules_count])), (h_rules_codes, .inl (tc.1, 24, .inl c_rules_codes)), (h_words, .inr (10, [.ref h_words_costs, .ref h_words_highs, .ref h_words_lows])), (h_words_costs, .inl (tc.1, 362, .inl v23)), (h_words_highs, .inl (tc.2.1, 362, .inr (.inl v24))), (h_words_lows, .inl (tc.2.1, 362, .inr (.inl v25)))] 66 [(0, .ref h_), (2, .int v21), (3, .int v22)] []) (v21 : Int32) (v22 : Int32) (v23 : (Nat → Int32)) (v24 : (Nat → Int64)) (v25 : (Nat → Int64)) : jo X 5 (0, 0) (jQV X (fun (u : (Nat → Int32) × (Nat → Int64) × (Nat → Int64)) => [(h_, .inr (0, [.ref h_rules, .ref h_words, g_plainKnown, g_exampleKey])), (h_rules, .inr (6, [.ref h_rules_codes, .int c_rules_count])), (h_rules_codes, .inl (tc.1, 24, .inl c_rules_codes)), (h_words, .inr (10, [.ref h_words_costs, .ref h_words_highs, .ref h_words_lows])), (h_words_costs, .inl (tc.1, 362, .inl u.1)), (h_words_highs, .inl (tc.2.1, 362, .inr (.inl u.2.1))), (h_words_lows, .inl (tc.2.1, 362, .inr (.inl u.2.2)))])) (bX0_findMarked_66 N c_rules_codes c_rules_count k20 rc26 v21 v22 v23 v24 v25) [(h_, .inr (0, [.ref h_rules, .ref h_words, g_plainKnown, g_exampleKey])), (h_rules, .inr (6, [.ref h_rules_codes, .int c_rules_count])), (h_rules_codes, .inl (tc.1, 24, .inl c_rules_codes)), (h_words, .inr (10, [.ref h_words_costs, .ref h_words_highs, .ref h_words_lows])), (h_words_costs, .inl (tc.1, 362, .inl v23)), (h_words_highs, .inl (tc.2.1, 362, .inr (.inl v24))), (h_words_lows, .inl (tc.2.1, 362, .inr (.inl v25)))] 66 [(0, .ref h_), (2, .int v21), (3, .int v22)] [] := by
  unfold bX0_findMarked_66
  refine j_iload C d0_findMarked_66 2 rfl ?_
  refine j_const C d0_findMarked_67 ?_
  refine j_icmp_ge C d0_findMarked_70 ?_ ?_
  · exact j_sub [] rfl (hk20 _ _ _)
  · refine j_iload C d0_findMarked_73 1 rfl ?_
    refine j_if_eq C d0_findMarked_74 ?_ ?_
    · exact j_sub [] rfl (hk20 _ _ _)
    · refine j_const C d0_findMarked_77 ?_
      refine j_istore C d0_findMarked_78 (by decide) (lv' := [(2, .int 0), (0, .ref h_), (3, .int v22)]) rfl ?_
      refine j_const C d0_findMarked_79 ?_
      refine j_istore C d0_findMarked_80 (by decide) (lv' := [(4, .int 0), (2, .int 0), (0, .ref h_), (3, .int v22)]) rfl ?_
      refine j_join4 119 (fun v27 v28 v29 v30 => [(h_, .inr (0, [.ref h_rules, .ref h_words, g_plainKnown, g_exampleKey])), (h_rules, .inr (6, [.ref h_rules_codes, .int c_rules_count])), (h_rules_codes, .inl (tc.1, 24, .inl c_rules_codes)), (h_words, .inr (10, [.ref h_words_costs, .ref h_words_highs, .ref h_words_lows])), (h_words_costs, .inl (tc.1, 362, .inl v28)), (h_words_highs, .inl (tc.2.1, 362, .inr (.inl v29))), (h_words_lows, .inl (tc.2.1, 362, .inr (.inl v30)))]) (fun v27 v28 v29 v30 => [(0, .ref h_), (2, .int v27), (3, .int v22)]) (fun v27 v28 v29 v30 => []) (fun v27 v28 v29 v30 => ?_) (fun k32 hk32 => ?_)
      · refine j_iincN C (fun x31 => [(3, .int x31), (0, .ref h_), (2, .int v27)]) d0_findMarked_119 2 rfl (by decide +kernel) (by decide) (fun _ => rfl) (fun x31 => ?_)
        refine j_goto C d0_findMarked_122 ?_
        exact j_sub [1, 2, 0] rfl (hrc26 _ _ _ _ _)
      · exact j_sub [2, 1, 3, 0] rfl (j_loop5 (fun v33 v34 v35 v36 v37 => [(h_, .inr (0, [.ref h_rules, .ref h_words, g_plainKnown, g_exampleKey])), (h_rules, .inr (6, [.ref h_rules_codes, .int c_rules_count])), (h_rules_codes, .inl (tc.1, 24, .inl c_rules_codes)), (h_words, .inr (10, [.ref h_words_costs, .ref h_words_highs, .ref h_words_lows])), (h_words_costs, .inl (tc.1, 362, .inl v35)), (h_words_highs, .inl (tc.2.1, 362, .inr (.inl v36))), (h_words_lows, .inl (tc.2.1, 362, .inr (.inl v37)))]) (fun v33 v34 v35 v36 v37 => [(0, .ref h_), (2, .int v33), (3, .int v22), (4, .int v34)]) (fun rc38 hrc38 v33 v34 v35 v36 v37 => wX0_findMarked_82 C N h_ h_rules h_rules_codes h_words h_words_costs h_words_highs h_words_lows g_plainKnown g_exampleKey c_rules_codes c_rules_count v22 k32 hk32 rc38 hrc38 v33 v34 v35 v36 v37) N _ _ _ _ _)

set_option maxHeartbeats 4000000 in
set_option maxRecDepth 100000 in
theorem kX0_findMarked (l : Launch) (D : va_G) (tc : jTC) (N : Nat) (h_ h_rules h_rules_codes h_words h_words_costs h_words_highs h_words_lows : Nat) (g_plainKnown g_exampleKey : Value) (c_rules_codes : (Nat → Int32)) (c_rules_count : Int32) (c_words_costs : (Nat → Int32)) (c_words_highs : (Nat → Int64)) (c_words_lows : (Nat → Int64)) (p1 : Int32) : ctV l D tc yX0_findMarked (Cond.code yX0_findMarked cX0_findMarked 5 none :: jtb) ({ frames := 4, cells := 0, slots := 0, locals := 97 } : Room) [.ref h_, .int p1] [(h_, .inr (0, [.ref h_rules, .ref h_words, g_plainKnown, g_exampleKey])), (h_rules, .inr (6, [.ref h_rules_codes, .int c_rules_count])), (h_rules_codes, .inl (tc.1, 24, .inl c_rules_codes)), (h_words, .inr (10, [.ref h_words_costs, .ref h_words_highs, .ref h_words_lows])), (h_words_costs, .inl (tc.1, 362, .inl c_words_costs)), (h_words_highs, .inl (tc.2.1, 362, .inr (.inl c_words_highs))), (h_words_lows, .inl (tc.2.1, 362, .inr (.inl c_words_lows)))] (fX0_findMarked N c_rules_codes c_rules_count c_words_costs c_words_highs c_words_lows p1) (fun (u : (Nat → Int32) × (Nat → Int64) × (Nat → Int64)) => [(h_, .inr (0, [.ref h_rules, .ref h_words, g_plainKnown, g_exampleKey])), (h_rules, .inr (6, [.ref h_rules_codes, .int c_rules_count])), (h_rules_codes, .inl (tc.1, 24, .inl c_rules_codes)), (h_words, .inr (10, [.ref h_words_costs, .ref h_words_highs, .ref h_words_lows])), (h_words_costs, .inl (tc.1, 362, .inl u.1)), (h_words_highs, .inl (tc.2.1, 362, .inr (.inl u.2.1))), (h_words_lows, .inl (tc.2.1, 362, .inr (.inl u.2.2)))]) := by
  refine ctV_of (lv0 := [(0, .ref h_), (1, .int p1)]) (by decide +kernel) (Nat.le_of_ble_eq_true rfl) rfl (fun X C => ?_)
  unfold fX0_findMarked
  refine j_aload C d0_findMarked_0 0 rfl ?_
  refine j_const C d0_findMarked_1 ?_
  refine j_callVV3 (As := [.int 36]) C d0_findMarked_3 mv0_58 (kX0_forgetKind _ _ tc N h_ h_words h_words_costs h_words_highs h_words_lows (.ref h_rules) g_plainKnown g_exampleKey c_words_costs c_words_highs c_words_lows 36) ⟨rfl, rfl, Nat.le_of_ble_eq_true rfl, Nat.le_of_ble_eq_true rfl⟩ rfl 0 rfl [0, 3, 4, 5, 6] rfl rfl rfl (Nat.le_of_ble_eq_true rfl) (fun o1 o2 o3 => [(h_, .inr (0, [.ref h_rules, .ref h_words, g_plainKnown, g_exampleKey])), (h_rules, .inr (6, [.ref h_rules_codes, .int c_rules_count])), (h_rules_codes, .inl (tc.1, 24, .inl c_rules_codes)), (h_words, .inr (10, [.ref h_words_costs, .ref h_words_highs, .ref h_words_lows])), (h_words_costs, .inl (tc.1, 362, .inl o1)), (h_words_highs, .inl (tc.2.1, 362, .inr (.inl o2))), (h_words_lows, .inl (tc.2.1, 362, .inr (.inl o3)))]) [(true, 0), (false, 1), (false, 2), (true, 1), (true, 2), (true, 3), (true, 4)] (fun _ => rfl) (by decide +kernel) (fun o1 o2 o3 => ?_)
  refine j_aload C d0_findMarked_6 0 rfl ?_
  refine j_const C d0_findMarked_7 ?_
  refine j_callVV3 (As := [.int 54]) C d0_findMarked_9 mv0_58 (kX0_forgetKind _ _ tc N h_ h_words h_words_costs h_words_highs h_words_lows (.ref h_rules) g_plainKnown g_exampleKey o1 o2 o3 54) ⟨rfl, rfl, Nat.le_of_ble_eq_true rfl, Nat.le_of_ble_eq_true rfl⟩ rfl 0 rfl [0, 3, 4, 5, 6] rfl rfl rfl (Nat.le_of_ble_eq_true rfl) (fun o4 o5 o6 => [(h_, .inr (0, [.ref h_rules, .ref h_words, g_plainKnown, g_exampleKey])), (h_rules, .inr (6, [.ref h_rules_codes, .int c_rules_count])), (h_rules_codes, .inl (tc.1, 24, .inl c_rules_codes)), (h_words, .inr (10, [.ref h_words_costs, .ref h_words_highs, .ref h_words_lows])), (h_words_costs, .inl (tc.1, 362, .inl o4)), (h_words_highs, .inl (tc.2.1, 362, .inr (.inl o5))), (h_words_lows, .inl (tc.2.1, 362, .inr (.inl o6)))]) [(true, 0), (false, 1), (false, 2), (true, 1), (true, 2), (true, 3), (true, 4)] (fun _ => rfl) (by decide +kernel) (fun o4 o5 o6 => ?_)
  refine j_aload C d0_findMarked_12 0 rfl ?_
  refine j_get C d0_findMarked_13 fl0_16 0 rfl rfl ?_
  refine j_iload C d0_findMarked_16 1 rfl ?_
  refine j_const C d0_findMarked_17 ?_
  refine j_callSI0 (As := [.int p1, .int 0]) C d0_findMarked_18 ms0_74 (kX0_plainTail _ _ tc p1 0) ⟨rfl, rfl, Nat.le_of_ble_eq_true rfl, Nat.le_of_ble_eq_true rfl⟩ rfl [] rfl rfl rfl (Nat.le_of_ble_eq_true rfl) (fun x7 => ?_)
  refine j_callVI0 (As := [.int x7]) C d0_findMarked_21 mv0_104 (kX10_isEmpty _ _ tc 362 h_words h_words_costs (.ref h_words_highs) (.ref h_words_lows) o4 x7) ⟨rfl, rfl, Nat.le_of_ble_eq_true rfl, Nat.le_of_ble_eq_true rfl⟩ rfl 3 rfl [3, 4] rfl rfl rfl (Nat.le_of_ble_eq_true rfl) (fun x8 => ?_)
  refine j_join3 42 (fun v9 v10 v11 => [(h_, .inr (0, [.ref h_rules, .ref h_words, g_plainKnown, g_exampleKey])), (h_rules, .inr (6, [.ref h_rules_codes, .int c_rules_count])), (h_rules_codes, .inl (tc.1, 24, .inl c_rules_codes)), (h_words, .inr (10, [.ref h_words_costs, .ref h_words_highs, .ref h_words_lows])), (h_words_costs, .inl (tc.1, 362, .inl v9)), (h_words_highs, .inl (tc.2.1, 362, .inr (.inl v10))), (h_words_lows, .inl (tc.2.1, 362, .inr (.inl v11)))]) (fun v9 v10 v11 => [(0, .ref h_), (1, .int p1)]) (fun v9 v10 v11 => []) (fun v9 v10 v11 => ?_) (fun k55 hk55 => ?_)
  · refine j_aload C d0_findMarked_42 0 rfl ?_
    refine j_get C d0_findMarked_43 fl0_16 0 rfl rfl ?_
    refine j_const C d0_findMarked_46 ?_
    refine j_aload C d0_findMarked_48 0 rfl ?_
    refine j_iload C d0_findMarked_49 1 rfl ?_
    refine j_callVI0 (As := [.int p1]) C d0_findMarked_50 mv0_71 (kX0_leftSymbol _ _ tc h_ h_rules h_rules_codes (.ref h_words) g_plainKnown g_exampleKey (.int c_rules_count) c_rules_codes p1) ⟨rfl, rfl, Nat.le_of_ble_eq_true rfl, Nat.le_of_ble_eq_true rfl⟩ rfl 0 rfl [0, 1, 2] rfl rfl rfl (Nat.le_of_ble_eq_true rfl) (fun x12 => ?_)
    refine j_iadd C d0_findMarked_53 ?_
    refine j_iload C d0_findMarked_54 1 rfl ?_
    refine j_const C d0_findMarked_55 ?_
    refine j_callSI0 (As := [.int p1, .int 0]) C d0_findMarked_56 ms0_101 (kX0_startingTail _ _ tc p1 0) ⟨rfl, rfl, Nat.le_of_ble_eq_true rfl, Nat.le_of_ble_eq_true rfl⟩ rfl [] rfl rfl rfl (Nat.le_of_ble_eq_true rfl) (fun x13 => ?_)
    refine j_callVV3 (As := [.int ((54 : Int32) + x12), .int x13]) C d0_findMarked_59 mv0_91 (kX10_putCopy _ _ tc 362 h_words h_words_costs h_words_highs h_words_lows v9 v10 v11 ((54 : Int32) + x12) x13) ⟨rfl, rfl, Nat.le_of_ble_eq_true rfl, Nat.le_of_ble_eq_true rfl⟩ rfl 3 rfl [3, 4, 5, 6] rfl rfl rfl (Nat.le_of_ble_eq_true rfl) (fun o14 o15 o16 => [(h_, .inr (0, [.ref h_rules, .ref h_words, g_plainKnown, g_exampleKey])), (h_rules, .inr (6, [.ref h_rules_codes, .int c_rules_count])), (h_rules_codes, .inl (tc.1, 24, .inl c_rules_codes)), (h_words, .inr (10, [.ref h_words_costs, .ref h_words_highs, .ref h_words_lows])), (h_words_costs, .inl (tc.1, 362, .inl o14)), (h_words_highs, .inl (tc.2.1, 362, .inr (.inl o15))), (h_words_lows, .inl (tc.2.1, 362, .inr (.inl o16)))]) [(false, 0), (false, 1), (false, 2), (true, 0), (true, 1), (true, 2), (true, 3)] (fun _ => rfl) (by decide +kernel) (fun o14 o15 o16 => ?_)
    refine j_const C d0_findMarked_62 ?_
    refine j_istore C d0_findMarked_63 (by decide) (lv' := [(2, .int 1), (0, .ref h_), (1, .int p1)]) rfl ?_
    refine j_const C d0_findMarked_64 ?_
    refine j_istore C d0_findMarked_65 (by decide) (lv' := [(3, .int 0), (2, .int 1), (0, .ref h_), (1, .int p1)]) rfl ?_
    refine j_join3 125 (fun v17 v18 v19 => [(h_, .inr (0, [.ref h_rules, .ref h_words, g_plainKnown, g_exampleKey])), (h_rules, .inr (6, [.ref h_rules_codes, .int c_rules_count])), (h_rules_codes, .inl (tc.1, 24, .inl c_rules_codes)), (h_words, .inr (10, [.ref h_words_costs, .ref h_words_highs, .ref h_words_lows])), (h_words_costs, .inl (tc.1, 362, .inl v17)), (h_words_highs, .inl (tc.2.1, 362, .inr (.inl v18))), (h_words_lows, .inl (tc.2.1, 362, .inr (.inl v19)))]) (fun v17 v18 v19 => []) (fun v17 v18 v19 => []) (fun v17 v18 v19 => ?_) (fun k20 hk20 => ?_)
    · exact j_vret C d0_findMarked_125 rfl
    · exact j_sub [2, 1, 0] rfl (j_loop5 (fun v21 v22 v23 v24 v25 => [(h_, .inr (0, [.ref h_rules, .ref h_words, g_plainKnown, g_exampleKey])), (h_rules, .inr (6, [.ref h_rules_codes, .int c_rules_count])), (h_rules_codes, .inl (tc.1, 24, .inl c_rules_codes)), (h_words, .inr (10, [.ref h_words_costs, .ref h_words_highs, .ref h_words_lows])), (h_words_costs, .inl (tc.1, 362, .inl v23)), (h_words_highs, .inl (tc.2.1, 362, .inr (.inl v24))), (h_words_lows, .inl (tc.2.1, 362, .inr (.inl v25)))]) (fun v21 v22 v23 v24 v25 => [(0, .ref h_), (2, .int v21), (3, .int v22)]) (fun rc26 hrc26 v21 v22 v23 v24 v25 => wX0_findMarked_66 C N h_ h_rules h_rules_codes h_words h_words_costs h_words_highs h_words_lows g_plainKnown g_exampleKey c_rules_codes c_rules_count k20 hk20 rc26 hrc26 v21 v22 v23 v24 v25) N _ _ _ _ _)
  · refine j_if_eq C d0_findMarked_24 ?_ ?_
    · exact hk55 _ _ _
    · refine j_aload C d0_findMarked_27 0 rfl ?_
      refine j_get C d0_findMarked_28 fl0_16 0 rfl rfl ?_
      refine j_const C d0_findMarked_31 ?_
      refine j_aload C d0_findMarked_33 0 rfl ?_
      refine j_iload C d0_findMarked_34 1 rfl ?_
      refine j_callVI0 (As := [.int p1]) C d0_findMarked_35 mv0_71 (kX0_leftSymbol _ _ tc h_ h_rules h_rules_codes (.ref h_words) g_plainKnown g_exampleKey (.int c_rules_count) c_rules_codes p1) ⟨rfl, rfl, Nat.le_of_ble_eq_true rfl, Nat.le_of_ble_eq_true rfl⟩ rfl 0 rfl [0, 1, 2] rfl rfl rfl (Nat.le_of_ble_eq_true rfl) (fun x56 => ?_)
      refine j_iadd C d0_findMarked_38 ?_
      refine j_callVV3 (As := [.int ((36 : Int32) + x56)]) C d0_findMarked_39 mv0_85 (kX10_putEmpty _ _ tc 362 h_words h_words_costs h_words_highs h_words_lows o4 o5 o6 ((36 : Int32) + x56)) ⟨rfl, rfl, Nat.le_of_ble_eq_true rfl, Nat.le_of_ble_eq_true rfl⟩ rfl 3 rfl [3, 4, 5, 6] rfl rfl rfl (Nat.le_of_ble_eq_true rfl) (fun o57 o58 o59 => [(h_, .inr (0, [.ref h_rules, .ref h_words, g_plainKnown, g_exampleKey])), (h_rules, .inr (6, [.ref h_rules_codes, .int c_rules_count])), (h_rules_codes, .inl (tc.1, 24, .inl c_rules_codes)), (h_words, .inr (10, [.ref h_words_costs, .ref h_words_highs, .ref h_words_lows])), (h_words_costs, .inl (tc.1, 362, .inl o57)), (h_words_highs, .inl (tc.2.1, 362, .inr (.inl o58))), (h_words_lows, .inl (tc.2.1, 362, .inr (.inl o59)))]) [(false, 0), (false, 1), (false, 2), (true, 0), (true, 1), (true, 2), (true, 3)] (fun _ => rfl) (by decide +kernel) (fun o57 o58 o59 => ?_)
      exact hk55 _ _ _

theorem d0_exampleWord_0 : jdi cX0_exampleWord 0 1 1 := Or.inl ⟨1, by decide +kernel⟩
theorem d0_exampleWord_1 : jdk cX0_exampleWord 1 9 3 := Or.inr (Or.inl ⟨9, by decide +kernel⟩)
theorem d0_exampleWord_3 : jd cX0_exampleWord 3 (.imul) 1 4 := by decide +kernel
theorem d0_exampleWord_4 : jdi cX0_exampleWord 4 2 5 := Or.inl ⟨2, by decide +kernel⟩
theorem d0_exampleWord_5 : jd cX0_exampleWord 5 (.iadd) 1 6 := by decide +kernel
theorem d0_exampleWord_6 : jds cX0_exampleWord 6 3 7 := Or.inl ⟨3, by decide +kernel⟩
theorem d0_exampleWord_7 : jda cX0_exampleWord 7 0 8 := Or.inl ⟨0, by decide +kernel⟩
theorem d0_exampleWord_8 : jd cX0_exampleWord 8 (.getfield 24) 3 11 := by decide +kernel
theorem d0_exampleWord_11 : jdi cX0_exampleWord 11 1 12 := Or.inl ⟨1, by decide +kernel⟩
theorem d0_exampleWord_12 : jd cX0_exampleWord 12 (.invokevirtual 35) 3 15 := by decide +kernel
theorem d0_exampleWord_15 : jdb cX0_exampleWord 15 (.ifCond .eq 30) 30 45 18 := by decide +kernel
theorem d0_exampleWord_18 : jdi cX0_exampleWord 18 3 19 := Or.inl ⟨3, by decide +kernel⟩
theorem d0_exampleWord_19 : jda cX0_exampleWord 19 0 20 := Or.inl ⟨0, by decide +kernel⟩
theorem d0_exampleWord_20 : jd cX0_exampleWord 20 (.getfield 20) 3 23 := by decide +kernel
theorem d0_exampleWord_23 : jdb cX0_exampleWord 23 (.if_icmp .eq 22) 22 45 26 := by decide +kernel
theorem d0_exampleWord_26 : jda cX0_exampleWord 26 0 27 := Or.inl ⟨0, by decide +kernel⟩
theorem d0_exampleWord_27 : jd cX0_exampleWord 27 (.invokevirtual 32) 3 30 := by decide +kernel
theorem d0_exampleWord_30 : jda cX0_exampleWord 30 0 31 := Or.inl ⟨0, by decide +kernel⟩
theorem d0_exampleWord_31 : jdi cX0_exampleWord 31 2 32 := Or.inl ⟨2, by decide +kernel⟩
theorem d0_exampleWord_32 : jd cX0_exampleWord 32 (.invokevirtual 41) 3 35 := by decide +kernel
theorem d0_exampleWord_35 : jda cX0_exampleWord 35 0 36 := Or.inl ⟨0, by decide +kernel⟩
theorem d0_exampleWord_36 : jdi cX0_exampleWord 36 1 37 := Or.inl ⟨1, by decide +kernel⟩
theorem d0_exampleWord_37 : jd cX0_exampleWord 37 (.invokevirtual 44) 3 40 := by decide +kernel
theorem d0_exampleWord_40 : jda cX0_exampleWord 40 0 41 := Or.inl ⟨0, by decide +kernel⟩
theorem d0_exampleWord_41 : jdi cX0_exampleWord 41 3 42 := Or.inl ⟨3, by decide +kernel⟩
theorem d0_exampleWord_42 : jd cX0_exampleWord 42 (.putfield 20) 3 45 := by decide +kernel
theorem d0_exampleWord_45 : jdi cX0_exampleWord 45 2 46 := Or.inl ⟨2, by decide +kernel⟩
theorem d0_exampleWord_46 : jdk cX0_exampleWord 46 8 48 := Or.inr (Or.inl ⟨8, by decide +kernel⟩)
theorem d0_exampleWord_48 : jdb cX0_exampleWord 48 (.if_icmp .ne 8) 8 56 51 := by decide +kernel
theorem d0_exampleWord_51 : jdk cX0_exampleWord 51 36 53 := Or.inr (Or.inl ⟨36, by decide +kernel⟩)
theorem d0_exampleWord_53 : jdb cX0_exampleWord 53 (.goto 5) 5 58 56 := by decide +kernel
theorem d0_exampleWord_56 : jdk cX0_exampleWord 56 54 58 := Or.inr (Or.inl ⟨54, by decide +kernel⟩)
theorem d0_exampleWord_58 : jdk cX0_exampleWord 58 10 60 := Or.inr (Or.inl ⟨10, by decide +kernel⟩)
theorem d0_exampleWord_60 : jd cX0_exampleWord 60 (.iadd) 1 61 := by decide +kernel
theorem d0_exampleWord_61 : jdk cX0_exampleWord 61 0 62 := Or.inl ⟨0, by decide +kernel⟩
theorem d0_exampleWord_62 : jd cX0_exampleWord 62 (.iadd) 1 63 := by decide +kernel
theorem d0_exampleWord_63 : decode cX0_exampleWord 63 = .ok (.ireturn, 1) := by decide +kernel
set_option maxHeartbeats 4000000 in
set_option maxRecDepth 100000 in
theorem kX0_exampleWord (l : Launch) (D : va_G) (tc : jTC) (N : Nat) (h_ h_rules h_rules_codes h_words h_words_costs h_words_highs h_words_lows : Nat) (c_rules_codes : (Nat → Int32)) (c_rules_count : Int32) (c_words_costs : (Nat → Int32)) (c_words_highs : (Nat → Int64)) (c_words_lows : (Nat → Int64)) (c_plainKnown : Int32) (c_exampleKey : Int32) (p1 : Int32) (p2 : Int32) : ctI l D tc yX0_exampleWord (Cond.code yX0_exampleWord cX0_exampleWord 4 (some .int) :: jtb) ({ frames := 5, cells := 0, slots := 0, locals := 121 } : Room) [.ref h_, .int p1, .int p2] [(h_, .inr (0, [.ref h_rules, .ref h_words, .int c_plainKnown, .int c_exampleKey])), (h_rules, .inr (6, [.ref h_rules_codes, .int c_rules_count])), (h_rules_codes, .inl (tc.1, 24, .inl c_rules_codes)), (h_words, .inr (10, [.ref h_words_costs, .ref h_words_highs, .ref h_words_lows])), (h_words_costs, .inl (tc.1, 362, .inl c_words_costs)), (h_words_highs, .inl (tc.2.1, 362, .inr (.inl c_words_highs))), (h_words_lows, .inl (tc.2.1, 362, .inr (.inl c_words_lows)))] (fX0_exampleWord N c_rules_codes c_rules_count c_words_costs c_words_highs c_words_lows c_plainKnown c_exampleKey p1 p2) (fun (u : (Nat → Int32) × (Nat → Int64) × (Nat → Int64) × Int32 × Int32) => [(h_, .inr (0, [.ref h_rules, .ref h_words, .int u.2.2.2.1, .int u.2.2.2.2])), (h_rules, .inr (6, [.ref h_rules_codes, .int c_rules_count])), (h_rules_codes, .inl (tc.1, 24, .inl c_rules_codes)), (h_words, .inr (10, [.ref h_words_costs, .ref h_words_highs, .ref h_words_lows])), (h_words_costs, .inl (tc.1, 362, .inl u.1)), (h_words_highs, .inl (tc.2.1, 362, .inr (.inl u.2.1))), (h_words_lows, .inl (tc.2.1, 362, .inr (.inl u.2.2.1)))]) := by
  refine ctI_of (lv0 := [(0, .ref h_), (1, .int p1), (2, .int p2)]) (by decide +kernel) (Nat.le_of_ble_eq_true rfl) rfl (fun X C => ?_)
  unfold fX0_exampleWord
  refine j_iload C d0_exampleWord_0 1 rfl ?_
  refine j_const C d0_exampleWord_1 ?_
  refine j_imul C d0_exampleWord_3 ?_
  refine j_iload C d0_exampleWord_4 2 rfl ?_
  refine j_iadd C d0_exampleWord_5 ?_
  refine j_leti (fun x1 => ?_)
  refine j_istore C d0_exampleWord_6 (by decide) (lv' := [(3, .int x1), (0, .ref h_), (1, .int p1), (2, .int p2)]) rfl ?_
  refine j_aload C d0_exampleWord_7 1 rfl ?_
  refine j_get C d0_exampleWord_8 fl0_24 0 rfl rfl ?_
  refine j_iload C d0_exampleWord_11 2 rfl ?_
  refine j_callVI0 (As := [.int p1]) C d0_exampleWord_12 mv0_35 (kX6_has _ _ tc h_rules (.ref h_rules_codes) c_rules_count p1) ⟨rfl, rfl, Nat.le_of_ble_eq_true rfl, Nat.le_of_ble_eq_true rfl⟩ rfl 1 rfl [1] rfl rfl rfl (Nat.le_of_ble_eq_true rfl) (fun x2 => ?_)
  refine j_join5 45 (fun v3 v4 v5 v6 v7 => [(h_, .inr (0, [.ref h_rules, .ref h_words, .int v6, .int v7])), (h_rules, .inr (6, [.ref h_rules_codes, .int c_rules_count])), (h_rules_codes, .inl (tc.1, 24, .inl c_rules_codes)), (h_words, .inr (10, [.ref h_words_costs, .ref h_words_highs, .ref h_words_lows])), (h_words_costs, .inl (tc.1, 362, .inl v3)), (h_words_highs, .inl (tc.2.1, 362, .inr (.inl v4))), (h_words_lows, .inl (tc.2.1, 362, .inr (.inl v5)))]) (fun v3 v4 v5 v6 v7 => [(2, .int p2)]) (fun v3 v4 v5 v6 v7 => []) (fun v3 v4 v5 v6 v7 => ?_) (fun k10 hk10 => ?_)
  · refine j_iload C d0_exampleWord_45 0 rfl ?_
    refine j_const C d0_exampleWord_46 ?_
    refine j_join 58 (fun v8 => [(h_, .inr (0, [.ref h_rules, .ref h_words, .int v6, .int v7])), (h_rules, .inr (6, [.ref h_rules_codes, .int c_rules_count])), (h_rules_codes, .inl (tc.1, 24, .inl c_rules_codes)), (h_words, .inr (10, [.ref h_words_costs, .ref h_words_highs, .ref h_words_lows])), (h_words_costs, .inl (tc.1, 362, .inl v3)), (h_words_highs, .inl (tc.2.1, 362, .inr (.inl v4))), (h_words_lows, .inl (tc.2.1, 362, .inr (.inl v5)))]) (fun v8 => []) (fun v8 => [.int v8]) (fun v8 => ?_) (fun k9 hk9 => ?_)
    · refine j_const C d0_exampleWord_58 ?_
      refine j_iadd C d0_exampleWord_60 ?_
      refine j_const C d0_exampleWord_61 ?_
      refine j_iadd C d0_exampleWord_62 ?_
      exact j_iret C d0_exampleWord_63 rfl
    · refine j_icmp_ne C d0_exampleWord_48 ?_ ?_
      · refine j_const C d0_exampleWord_56 ?_
        exact j_sub [] rfl (hk9 _)
      · refine j_const C d0_exampleWord_51 ?_
        refine j_goto C d0_exampleWord_53 ?_
        exact j_sub [] rfl (hk9 _)
  · refine j_if_eq C d0_exampleWord_15 ?_ ?_
    · exact j_sub [3] rfl (hk10 _ _ _ _ _)
    · refine j_iload C d0_exampleWord_18 0 rfl ?_
      refine j_aload C d0_exampleWord_19 1 rfl ?_
      refine j_get C d0_exampleWord_20 fl0_20 0 rfl rfl ?_
      refine j_icmp_eq C d0_exampleWord_23 ?_ ?_
      · exact j_sub [3] rfl (hk10 _ _ _ _ _)
      · refine j_aload C d0_exampleWord_26 1 rfl ?_
        refine j_callVV4 (As := []) C d0_exampleWord_27 mv0_32 (kX0_findPlain _ _ tc N h_ h_rules h_rules_codes h_words h_words_costs h_words_highs h_words_lows (.int c_exampleKey) c_rules_codes c_rules_count c_words_costs c_words_highs c_words_lows c_plainKnown) ⟨rfl, rfl, Nat.le_of_ble_eq_true rfl, Nat.le_of_ble_eq_true rfl⟩ rfl 0 rfl [0, 1, 2, 3, 4, 5, 6] rfl rfl rfl (Nat.le_of_ble_eq_true rfl) (fun o11 o12 o13 o14 => [(h_, .inr (0, [.ref h_rules, .ref h_words, .int o14, .int c_exampleKey])), (h_rules, .inr (6, [.ref h_rules_codes, .int c_rules_count])), (h_rules_codes, .inl (tc.1, 24, .inl c_rules_codes)), (h_words, .inr (10, [.ref h_words_costs, .ref h_words_highs, .ref h_words_lows])), (h_words_costs, .inl (tc.1, 362, .inl o11)), (h_words_highs, .inl (tc.2.1, 362, .inr (.inl o12))), (h_words_lows, .inl (tc.2.1, 362, .inr (.inl o13)))]) [(true, 0), (true, 1), (true, 2), (true, 3), (true, 4), (true, 5), (true, 6)] (fun _ => rfl) (by decide +kernel) (fun o11 o12 o13 o14 => ?_)
        refine j_aload C d0_exampleWord_30 1 rfl ?_
        refine j_iload C d0_exampleWord_31 3 rfl ?_
        refine j_callVV3 (As := [.int p2]) C d0_exampleWord_32 mv0_41 (kX0_findStarting _ _ tc N h_ h_rules h_rules_codes h_words h_words_costs h_words_highs h_words_lows (.int o14) (.int c_exampleKey) c_rules_codes c_rules_count o11 o12 o13 p2) ⟨rfl, rfl, Nat.le_of_ble_eq_true rfl, Nat.le_of_ble_eq_true rfl⟩ rfl 0 rfl [0, 1, 2, 3, 4, 5, 6] rfl rfl rfl (Nat.le_of_ble_eq_true rfl) (fun o15 o16 o17 => [(h_, .inr (0, [.ref h_rules, .ref h_words, .int o14, .int c_exampleKey])), (h_rules, .inr (6, [.ref h_rules_codes, .int c_rules_count])), (h_rules_codes, .inl (tc.1, 24, .inl c_rules_codes)), (h_words, .inr (10, [.ref h_words_costs, .ref h_words_highs, .ref h_words_lows])), (h_words_costs, .inl (tc.1, 362, .inl o15)), (h_words_highs, .inl (tc.2.1, 362, .inr (.inl o16))), (h_words_lows, .inl (tc.2.1, 362, .inr (.inl o17)))]) [(true, 0), (true, 1), (true, 2), (true, 3), (true, 4), (true, 5), (true, 6)] (fun _ => rfl) (by decide +kernel) (fun o15 o16 o17 => ?_)
        refine j_aload C d0_exampleWord_35 1 rfl ?_
        refine j_iload C d0_exampleWord_36 2 rfl ?_
        refine j_callVV3 (As := [.int p1]) C d0_exampleWord_37 mv0_44 (kX0_findMarked _ _ tc N h_ h_rules h_rules_codes h_words h_words_costs h_words_highs h_words_lows (.int o14) (.int c_exampleKey) c_rules_codes c_rules_count o15 o16 o17 p1) ⟨rfl, rfl, Nat.le_of_ble_eq_true rfl, Nat.le_of_ble_eq_true rfl⟩ rfl 0 rfl [0, 1, 2, 3, 4, 5, 6] rfl rfl rfl (Nat.le_of_ble_eq_true rfl) (fun o18 o19 o20 => [(h_, .inr (0, [.ref h_rules, .ref h_words, .int o14, .int c_exampleKey])), (h_rules, .inr (6, [.ref h_rules_codes, .int c_rules_count])), (h_rules_codes, .inl (tc.1, 24, .inl c_rules_codes)), (h_words, .inr (10, [.ref h_words_costs, .ref h_words_highs, .ref h_words_lows])), (h_words_costs, .inl (tc.1, 362, .inl o18)), (h_words_highs, .inl (tc.2.1, 362, .inr (.inl o19))), (h_words_lows, .inl (tc.2.1, 362, .inr (.inl o20)))]) [(true, 0), (true, 1), (true, 2), (true, 3), (true, 4), (true, 5), (true, 6)] (fun _ => rfl) (by decide +kernel) (fun o18 o19 o20 => ?_)
        refine j_aload C d0_exampleWord_40 1 rfl ?_
        refine j_iload C d0_exampleWord_41 0 rfl ?_
        refine j_putq C d0_exampleWord_42 fq0_20 0 rfl rfl rfl (Nat.le_of_ble_eq_true rfl) (ws' := [(h_, .inr (0, [.ref h_rules, .ref h_words, .int o14, .int x1])), (h_rules, .inr (6, [.ref h_rules_codes, .int c_rules_count])), (h_rules_codes, .inl (tc.1, 24, .inl c_rules_codes)), (h_words, .inr (10, [.ref h_words_costs, .ref h_words_highs, .ref h_words_lows])), (h_words_costs, .inl (tc.1, 362, .inl o18)), (h_words_highs, .inl (tc.2.1, 362, .inr (.inl o19))), (h_words_lows, .inl (tc.2.1, 362, .inr (.inl o20)))]) rfl ?_
        exact j_sub [3] rfl (hk10 _ _ _ _ _)

theorem d1_has_0 : jdi cX1_has 0 1 1 := Or.inl ⟨1, by decide +kernel⟩
theorem d1_has_1 : jdb cX1_has 1 (.ifCond .lt 15) 15 16 4 := by decide +kernel
theorem d1_has_4 : jdi cX1_has 4 1 5 := Or.inl ⟨1, by decide +kernel⟩
theorem d1_has_5 : jda cX1_has 5 0 6 := Or.inl ⟨0, by decide +kernel⟩
theorem d1_has_6 : jd cX1_has 6 (.getfield 16) 3 9 := by decide +kernel
theorem d1_has_9 : jdb cX1_has 9 (.if_icmp .ge 7) 7 16 12 := by decide +kernel
theorem d1_has_12 : jdk cX1_has 12 1 13 := Or.inl ⟨1, by decide +kernel⟩
theorem d1_has_13 : jdb cX1_has 13 (.goto 4) 4 17 16 := by decide +kernel
theorem d1_has_16 : jdk cX1_has 16 0 17 := Or.inl ⟨0, by decide +kernel⟩
theorem d1_has_17 : decode cX1_has 17 = .ok (.ireturn, 1) := by decide +kernel
set_option maxHeartbeats 4000000 in
set_option maxRecDepth 100000 in
theorem kX1_has (l : Launch) (D : va_G) (tc : jTC) (h_ : Nat) (g_codes g_details : Value) (c_levels : Int32) (p1 : Int32) : ctI0 l D tc yX1_has (Cond.code yX1_has cX1_has 2 (some .boolean) :: jtb) ({ frames := 0, cells := 0, slots := 0, locals := 0 } : Room) [.ref h_, .int p1] [(h_, .inr (1, [g_codes, g_details, .int c_levels]))] (fX1_has c_levels p1) := by
  refine ctI0_of (lv0 := [(0, .ref h_), (1, .int p1)]) (by decide +kernel) (Nat.le_of_ble_eq_true rfl) rfl (fun X C => ?_)
  unfold fX1_has
  refine j_iload C d1_has_0 1 rfl ?_
  refine j_join 17 (fun v1 => [(h_, .inr (1, [g_codes, g_details, .int c_levels]))]) (fun v1 => []) (fun v1 => [.int v1]) (fun v1 => ?_) (fun k2 hk2 => ?_)
  · refine j_gz (fun hz => ?_)
    exact j_zret0 C hz d1_has_17
  · refine j_join 16 (fun v3 => [(h_, .inr (1, [g_codes, g_details, .int c_levels]))]) (fun v3 => []) (fun v3 => []) (fun v3 => ?_) (fun k4 hk4 => ?_)
    · refine j_const C d1_has_16 ?_
      exact hk2 _
    · refine j_if_lt C d1_has_1 ?_ ?_
      · exact j_sub [] rfl (hk4 _)
      · refine j_iload C d1_has_4 1 rfl ?_
        refine j_aload C d1_has_5 0 rfl ?_
        refine j_get C d1_has_6 fl1_16 0 rfl rfl ?_
        refine j_icmp_ge C d1_has_9 ?_ ?_
        · exact j_sub [] rfl (hk4 _)
        · refine j_const C d1_has_12 ?_
          refine j_goto C d1_has_13 ?_
          exact j_sub [] rfl (hk2 _)

theorem d1_because_0 : jda cX1_because 0 0 1 := Or.inl ⟨0, by decide +kernel⟩
theorem d1_because_1 : jd cX1_because 1 (.getfield 16) 3 4 := by decide +kernel
theorem d1_because_4 : jdk cX1_because 4 3 5 := Or.inl ⟨3, by decide +kernel⟩
theorem d1_because_5 : jdb cX1_because 5 (.if_icmp .ge 33) 33 38 8 := by decide +kernel
theorem d1_because_8 : jda cX1_because 8 0 9 := Or.inl ⟨0, by decide +kernel⟩
theorem d1_because_9 : jd cX1_because 9 (.getfield 9) 3 12 := by decide +kernel
theorem d1_because_12 : jda cX1_because 12 0 13 := Or.inl ⟨0, by decide +kernel⟩
theorem d1_because_13 : jd cX1_because 13 (.getfield 16) 3 16 := by decide +kernel
theorem d1_because_16 : jdi cX1_because 16 1 17 := Or.inl ⟨1, by decide +kernel⟩
theorem d1_because_17 : jd cX1_because 17 (.iastore) 1 18 := by decide +kernel
theorem d1_because_18 : jda cX1_because 18 0 19 := Or.inl ⟨0, by decide +kernel⟩
theorem d1_because_19 : jd cX1_because 19 (.getfield 13) 3 22 := by decide +kernel
theorem d1_because_22 : jda cX1_because 22 0 23 := Or.inl ⟨0, by decide +kernel⟩
theorem d1_because_23 : jd cX1_because 23 (.getfield 16) 3 26 := by decide +kernel
theorem d1_because_26 : jdi cX1_because 26 2 27 := Or.inl ⟨2, by decide +kernel⟩
theorem d1_because_27 : jd cX1_because 27 (.iastore) 1 28 := by decide +kernel
theorem d1_because_28 : jda cX1_because 28 0 29 := Or.inl ⟨0, by decide +kernel⟩
theorem d1_because_29 : jd cX1_because 29 (.dup) 1 30 := by decide +kernel
theorem d1_because_30 : jd cX1_because 30 (.getfield 16) 3 33 := by decide +kernel
theorem d1_because_33 : jdk cX1_because 33 1 34 := Or.inl ⟨1, by decide +kernel⟩
theorem d1_because_34 : jd cX1_because 34 (.iadd) 1 35 := by decide +kernel
theorem d1_because_35 : jd cX1_because 35 (.putfield 16) 3 38 := by decide +kernel
theorem d1_because_38 : decode cX1_because 38 = .ok (.return_, 1) := by decide +kernel
set_option maxHeartbeats 4000000 in
set_option maxRecDepth 100000 in
theorem kX1_because (l : Launch) (D : va_G) (tc : jTC) (h_ h_codes h_details : Nat) (c_codes : (Nat → Int32)) (c_details : (Nat → Int32)) (c_levels : Int32) (p1 : Int32) (p2 : Int32) : ctV l D tc yX1_because (Cond.code yX1_because cX1_because 3 none :: jtb) ({ frames := 0, cells := 0, slots := 0, locals := 0 } : Room) [.ref h_, .int p1, .int p2] [(h_, .inr (1, [.ref h_codes, .ref h_details, .int c_levels])), (h_codes, .inl (tc.1, 3, .inl c_codes)), (h_details, .inl (tc.1, 3, .inl c_details))] (fX1_because c_codes c_details c_levels p1 p2) (fun (u : (Nat → Int32) × (Nat → Int32) × Int32) => [(h_, .inr (1, [.ref h_codes, .ref h_details, .int u.2.2])), (h_codes, .inl (tc.1, 3, .inl u.1)), (h_details, .inl (tc.1, 3, .inl u.2.1))]) := by
  refine ctV_of (lv0 := [(0, .ref h_), (1, .int p1), (2, .int p2)]) (by decide +kernel) (Nat.le_of_ble_eq_true rfl) rfl (fun X C => ?_)
  unfold fX1_because
  refine j_aload C d1_because_0 0 rfl ?_
  refine j_get C d1_because_1 fl1_16 0 rfl rfl ?_
  refine j_const C d1_because_4 ?_
  refine j_join3 38 (fun v1 v2 v3 => [(h_, .inr (1, [.ref h_codes, .ref h_details, .int v3])), (h_codes, .inl (tc.1, 3, .inl v1)), (h_details, .inl (tc.1, 3, .inl v2))]) (fun v1 v2 v3 => []) (fun v1 v2 v3 => []) (fun v1 v2 v3 => ?_) (fun k4 hk4 => ?_)
  · exact j_vret C d1_because_38 rfl
  · refine j_icmp_ge C d1_because_5 ?_ ?_
    · exact j_sub [] rfl (hk4 _ _ _)
    · refine j_aload C d1_because_8 0 rfl ?_
      refine j_get C d1_because_9 fl1_9 0 rfl rfl ?_
      refine j_aload C d1_because_12 0 rfl ?_
      refine j_get C d1_because_13 fl1_16 0 rfl rfl ?_
      refine j_iload C d1_because_16 1 rfl ?_
      refine j_iast C (fun f5 => [(h_, .inr (1, [.ref h_codes, .ref h_details, .int c_levels])), (h_codes, .inl (tc.1, 3, .inl f5)), (h_details, .inl (tc.1, 3, .inl c_details))]) d1_because_17 1 rfl (fun _ => rfl) (fun f5 => ?_)
      refine j_aload C d1_because_18 0 rfl ?_
      refine j_get C d1_because_19 fl1_13 0 rfl rfl ?_
      refine j_aload C d1_because_22 0 rfl ?_
      refine j_get C d1_because_23 fl1_16 0 rfl rfl ?_
      refine j_iload C d1_because_26 2 rfl ?_
      refine j_iast C (fun f6 => [(h_, .inr (1, [.ref h_codes, .ref h_details, .int c_levels])), (h_codes, .inl (tc.1, 3, .inl f5)), (h_details, .inl (tc.1, 3, .inl f6))]) d1_because_27 2 rfl (fun _ => rfl) (fun f6 => ?_)
      refine j_aload C d1_because_28 0 rfl ?_
      refine j_dup C d1_because_29 rfl ?_
      refine j_get C d1_because_30 fl1_16 0 rfl rfl ?_
      refine j_const C d1_because_33 ?_
      refine j_iadd C d1_because_34 ?_
      refine j_leti (fun x7 => ?_)
      refine j_putq C d1_because_35 fq1_16 0 rfl rfl rfl (Nat.le_of_ble_eq_true rfl) (ws' := [(h_, .inr (1, [.ref h_codes, .ref h_details, .int x7])), (h_codes, .inl (tc.1, 3, .inl f5)), (h_details, .inl (tc.1, 3, .inl f6))]) rfl ?_
      exact j_sub [] rfl (hk4 _ _ _)

