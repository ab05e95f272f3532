theorem d0_forget_0 : jda cX0_forget 0 0 1 := Or.inl ⟨0, by decide +kernel⟩
theorem d0_forget_1 : jdk cX0_forget 1 0 2 := Or.inl ⟨0, by decide +kernel⟩
theorem d0_forget_2 : jd cX0_forget 2 (.putfield 28) 3 5 := by decide +kernel
theorem d0_forget_5 : jda cX0_forget 5 0 6 := Or.inl ⟨0, by decide +kernel⟩
theorem d0_forget_6 : jdk cX0_forget 6 (-1) 7 := Or.inl ⟨(-1), by decide +kernel⟩
theorem d0_forget_7 : jd cX0_forget 7 (.putfield 20) 3 10 := by decide +kernel
theorem d0_forget_10 : decode cX0_forget 10 = .ok (.return_, 1) := by decide +kernel
set_option maxHeartbeats 4000000 in
set_option maxRecDepth 100000 in
theorem kX0_forget (l : Launch) (D : va_G) (tc : jTC) (h_ : Nat) (g_rules g_words : Value) (c_plainKnown : Int32) (c_exampleKey : Int32) : ctV l D tc yX0_forget (Cond.code yX0_forget cX0_forget 1 none :: jtb) ({ frames := 0, cells := 0, slots := 0, locals := 0 } : Room) [.ref h_] [(h_, .inr (0, [g_rules, g_words, .int c_plainKnown, .int c_exampleKey]))] (fX0_forget c_plainKnown c_exampleKey) (fun (u : Int32 × Int32) => [(h_, .inr (0, [g_rules, g_words, .int u.1, .int u.2]))]) := by
  refine ctV_of (lv0 := [(0, .ref h_)]) (by decide +kernel) (Nat.le_of_ble_eq_true rfl) rfl (fun X C => ?_)
  unfold fX0_forget
  refine j_aload C d0_forget_0 0 rfl ?_
  refine j_const C d0_forget_1 ?_
  refine j_putq C d0_forget_2 fq0_28 0 rfl rfl rfl (Nat.le_of_ble_eq_true rfl) (ws' := [(h_, .inr (0, [g_rules, g_words, .int 0, .int c_exampleKey]))]) rfl ?_
  refine j_aload C d0_forget_5 0 rfl ?_
  refine j_const C d0_forget_6 ?_
  refine j_putq C d0_forget_7 fq0_20 0 rfl rfl rfl (Nat.le_of_ble_eq_true rfl) (ws' := [(h_, .inr (0, [g_rules, g_words, .int 0, .int (-1)]))]) rfl ?_
  exact j_vret C d0_forget_10 rfl

theorem d10_put_0 : jda cX10_put 0 0 1 := Or.inl ⟨0, by decide +kernel⟩
theorem d10_put_1 : jd cX10_put 1 (.getfield 17) 3 4 := by decide +kernel
theorem d10_put_4 : jdi cX10_put 4 1 5 := Or.inl ⟨1, by decide +kernel⟩
theorem d10_put_5 : jdi cX10_put 5 2 6 := Or.inl ⟨2, by decide +kernel⟩
theorem d10_put_6 : jd cX10_put 6 (.iastore) 1 7 := by decide +kernel
theorem d10_put_7 : jda cX10_put 7 0 8 := Or.inl ⟨0, by decide +kernel⟩
theorem d10_put_8 : jd cX10_put 8 (.getfield 21) 3 11 := by decide +kernel
theorem d10_put_11 : jdi cX10_put 11 1 12 := Or.inl ⟨1, by decide +kernel⟩
theorem d10_put_12 : jdl cX10_put 12 3 13 := Or.inl ⟨3, by decide +kernel⟩
theorem d10_put_13 : jd cX10_put 13 (.lastore) 1 14 := by decide +kernel
theorem d10_put_14 : jda cX10_put 14 0 15 := Or.inl ⟨0, by decide +kernel⟩
theorem d10_put_15 : jd cX10_put 15 (.getfield 25) 3 18 := by decide +kernel
theorem d10_put_18 : jdi cX10_put 18 1 19 := Or.inl ⟨1, by decide +kernel⟩
theorem d10_put_19 : jdl cX10_put 19 5 21 := Or.inr (by decide +kernel)
theorem d10_put_21 : jd cX10_put 21 (.lastore) 1 22 := by decide +kernel
theorem d10_put_22 : decode cX10_put 22 = .ok (.return_, 1) := by decide +kernel
set_option maxHeartbeats 4000000 in
set_option maxRecDepth 100000 in
theorem kX10_put (l : Launch) (D : va_G) (tc : jTC) (n : Nat) (h_ h_costs h_highs h_lows : Nat) (c_costs : (Nat → Int32)) (c_highs : (Nat → Int64)) (c_lows : (Nat → Int64)) (p1 : Int32) (p2 : Int32) (p3 : Int64) (p5 : Int64) : ctV l D tc yX10_put (Cond.code yX10_put cX10_put 7 none :: jtb) ({ frames := 0, cells := 0, slots := 0, locals := 0 } : Room) [.ref h_, .int p1, .int p2, .long p3, .long p5] [(h_, .inr (10, [.ref h_costs, .ref h_highs, .ref h_lows])), (h_costs, .inl (tc.1, n, .inl c_costs)), (h_highs, .inl (tc.2.1, n, .inr (.inl c_highs))), (h_lows, .inl (tc.2.1, n, .inr (.inl c_lows)))] (fX10_put n c_costs c_highs c_lows p1 p2 p3 p5) (fun (u : (Nat → Int32) × (Nat → Int64) × (Nat → Int64)) => [(h_, .inr (10, [.ref h_costs, .ref h_highs, .ref h_lows])), (h_costs, .inl (tc.1, n, .inl u.1)), (h_highs, .inl (tc.2.1, n, .inr (.inl u.2.1))), (h_lows, .inl (tc.2.1, n, .inr (.inl u.2.2)))]) := by
  refine ctV_of (lv0 := [(0, .ref h_), (1, .int p1), (2, .int p2), (3, .long p3), (5, .long p5)]) (by decide +kernel) (Nat.le_of_ble_eq_true rfl) rfl (fun X C => ?_)
  unfold fX10_put
  refine j_aload C d10_put_0 0 rfl ?_
  refine j_get C d10_put_1 fl10_17 0 rfl rfl ?_
  refine j_iload C d10_put_4 1 rfl ?_
  refine j_iload C d10_put_5 2 rfl ?_
  refine j_iast C (fun f1 => [(h_, .inr (10, [.ref h_costs, .ref h_highs, .ref h_lows])), (h_costs, .inl (tc.1, n, .inl f1)), (h_highs, .inl (tc.2.1, n, .inr (.inl c_highs))), (h_lows, .inl (tc.2.1, n, .inr (.inl c_lows)))]) d10_put_6 1 rfl (fun _ => rfl) (fun f1 => ?_)
  refine j_aload C d10_put_7 0 rfl ?_
  refine j_get C d10_put_8 fl10_21 0 rfl rfl ?_
  refine j_iload C d10_put_11 1 rfl ?_
  refine j_lload C d10_put_12 3 rfl ?_
  refine j_last C (fun f2 => [(h_, .inr (10, [.ref h_costs, .ref h_highs, .ref h_lows])), (h_costs, .inl (tc.1, n, .inl f1)), (h_highs, .inl (tc.2.1, n, .inr (.inl f2))), (h_lows, .inl (tc.2.1, n, .inr (.inl c_lows)))]) d10_put_13 2 rfl (fun _ => rfl) (fun f2 => ?_)
  refine j_aload C d10_put_14 0 rfl ?_
  refine j_get C d10_put_15 fl10_25 0 rfl rfl ?_
  refine j_iload C d10_put_18 1 rfl ?_
  refine j_lload C d10_put_19 4 rfl ?_
  refine j_last C (fun f3 => [(h_, .inr (10, [.ref h_costs, .ref h_highs, .ref h_lows])), (h_costs, .inl (tc.1, n, .inl f1)), (h_highs, .inl (tc.2.1, n, .inr (.inl f2))), (h_lows, .inl (tc.2.1, n, .inr (.inl f3)))]) d10_put_21 3 rfl (fun _ => rfl) (fun f3 => ?_)
  exact j_vret C d10_put_22 rfl

theorem d10_putNone_0 : jda cX10_putNone 0 0 1 := Or.inl ⟨0, by decide +kernel⟩
theorem d10_putNone_1 : jdi cX10_putNone 1 1 2 := Or.inl ⟨1, by decide +kernel⟩
theorem d10_putNone_2 : jd cX10_putNone 2 (.ldc 28) 2 4 := by decide +kernel
theorem d10_putNone_4 : jd cX10_putNone 4 (.lconst 0) 1 5 := by decide +kernel
theorem d10_putNone_5 : jd cX10_putNone 5 (.lconst 0) 1 6 := by decide +kernel
theorem d10_putNone_6 : jd cX10_putNone 6 (.invokevirtual 37) 3 9 := by decide +kernel
theorem d10_putNone_9 : decode cX10_putNone 9 = .ok (.return_, 1) := by decide +kernel
set_option maxHeartbeats 4000000 in
set_option maxRecDepth 100000 in
theorem kX10_putNone (l : Launch) (D : va_G) (tc : jTC) (n : Nat) (h_ h_costs h_highs h_lows : Nat) (c_costs : (Nat → Int32)) (c_highs : (Nat → Int64)) (c_lows : (Nat → Int64)) (p1 : Int32) : ctV l D tc yX10_putNone (Cond.code yX10_putNone cX10_putNone 2 none :: jtb) ({ frames := 1, cells := 0, slots := 0, locals := 26 } : Room) [.ref h_, .int p1] [(h_, .inr (10, [.ref h_costs, .ref h_highs, .ref h_lows])), (h_costs, .inl (tc.1, n, .inl c_costs)), (h_highs, .inl (tc.2.1, n, .inr (.inl c_highs))), (h_lows, .inl (tc.2.1, n, .inr (.inl c_lows)))] (fX10_putNone n c_costs c_highs c_lows p1) (fun (u : (Nat → Int32) × (Nat → Int64) × (Nat → Int64)) => [(h_, .inr (10, [.ref h_costs, .ref h_highs, .ref h_lows])), (h_costs, .inl (tc.1, n, .inl u.1)), (h_highs, .inl (tc.2.1, n, .inr (.inl u.2.1))), (h_lows, .inl (tc.2.1, n, .inr (.inl u.2.2)))]) := by
  refine ctV_of (lv0 := [(0, .ref h_), (1, .int p1)]) (by decide +kernel) (Nat.le_of_ble_eq_true rfl) rfl (fun X C => ?_)
  unfold fX10_putNone
  refine j_aload C d10_putNone_0 0 rfl ?_
  refine j_iload C d10_putNone_1 1 rfl ?_
  refine j_ldc C d10_putNone_2 kc10_28 ?_
  refine j_lconst C d10_putNone_4 (by decide +kernel) ?_ (v := 0)
  refine j_lconst C d10_putNone_5 (by decide +kernel) ?_ (v := 0)
  refine j_callVV3 (As := [.int p1, .int 41984, .long 0, .long 0]) C d10_putNone_6 mv10_37 (kX10_put _ _ tc n h_ h_costs h_highs h_lows c_costs c_highs c_lows p1 41984 0 0) ⟨rfl, rfl, Nat.le_of_ble_eq_true rfl, Nat.le_of_ble_eq_true rfl⟩ rfl 0 rfl [0, 1, 2, 3] rfl rfl rfl (Nat.le_of_ble_eq_true rfl) (fun o1 o2 o3 => [(h_, .inr (10, [.ref h_costs, .ref h_highs, .ref h_lows])), (h_costs, .inl (tc.1, n, .inl o1)), (h_highs, .inl (tc.2.1, n, .inr (.inl o2))), (h_lows, .inl (tc.2.1, n, .inr (.inl o3)))]) [(true, 0), (true, 1), (true, 2), (true, 3)] (fun _ => rfl) (by decide +kernel) (fun o1 o2 o3 => ?_)
  exact j_vret C d10_putNone_9 rfl

theorem d0_forgetKind_0 : jdk cX0_forgetKind 0 0 1 := Or.inl ⟨0, by decide +kernel⟩
theorem d0_forgetKind_1 : jds cX0_forgetKind 1 2 2 := Or.inl ⟨2, by decide +kernel⟩
theorem d0_forgetKind_2 : jdi cX0_forgetKind 2 2 3 := Or.inl ⟨2, by decide +kernel⟩
theorem d0_forgetKind_3 : jdk cX0_forgetKind 3 18 5 := Or.inr (Or.inl ⟨18, by decide +kernel⟩)
theorem d0_forgetKind_5 : jdb cX0_forgetKind 5 (.if_icmp .ge 19) 19 24 8 := by decide +kernel
theorem d0_forgetKind_8 : jda cX0_forgetKind 8 0 9 := Or.inl ⟨0, by decide +kernel⟩
theorem d0_forgetKind_9 : jd cX0_forgetKind 9 (.getfield 16) 3 12 := by decide +kernel
theorem d0_forgetKind_12 : jdi cX0_forgetKind 12 1 13 := Or.inl ⟨1, by decide +kernel⟩
theorem d0_forgetKind_13 : jdi cX0_forgetKind 13 2 14 := Or.inl ⟨2, by decide +kernel⟩
theorem d0_forgetKind_14 : jd cX0_forgetKind 14 (.iadd) 1 15 := by decide +kernel
theorem d0_forgetKind_15 : jd cX0_forgetKind 15 (.invokevirtual 55) 3 18 := by decide +kernel
theorem d0_forgetKind_18 : jd cX0_forgetKind 18 (.iinc 2 1) 3 21 := by decide +kernel
theorem d0_forgetKind_21 : jdb cX0_forgetKind 21 (.goto (-19)) (-19) 2 24 := by decide +kernel
theorem d0_forgetKind_24 : decode cX0_forgetKind 24 = .ok (.return_, 1) := by decide +kernel
set_option maxHeartbeats 4000000 in
set_option maxRecDepth 100000 in
theorem wX0_forgetKind_2 {X : jC} {tc : jTC} (C : jx X cX0_forgetKind 3 RX0 none tc ({ frames := 2, cells := 0, slots := 0, locals := 47 } : Room)) (h_ h_words h_words_costs h_words_highs h_words_lows : Nat) (g_rules g_plainKnown g_exampleKey : Value) (p1 : Int32) (k4 : ((Nat → Int32) → (Nat → Int64) → (Nat → Int64) → Option ((Nat → Int32) × (Nat → Int64) × (Nat → Int64)))) (hk4 : ∀ (v14 : (Nat → Int32)) (v15 : (Nat → Int64)) (v16 : (Nat → Int64)), jo X 3 (0, 0) (jQV X (fun (u : (Nat → Int32) × (Nat → Int64) × (Nat → Int64)) => [(h_, .inr (0, [g_rules, .ref h_words, g_plainKnown, g_exampleKey])), (h_words, .inr (10, [.ref h_words_costs, .ref h_words_highs, .ref h_words_lows])), (h_words_costs, .inl (tc.1, 362, .inl u.1)), (h_words_highs, .inl (tc.2.1, 362, .inr (.inl u.2.1))), (h_words_lows, .inl (tc.2.1, 362, .inr (.inl u.2.2)))])) (k4 v14 v15 v16) [(h_, .inr (0, [g_rules, .ref h_words, g_plainKnown, g_exampleKey])), (h_words, .inr (10, [.ref h_words_costs, .ref h_words_highs, .ref h_words_lows])), (h_words_costs, .inl (tc.1, 362, .inl v14)), (h_words_highs, .inl (tc.2.1, 362, .inr (.inl v15))), (h_words_lows, .inl (tc.2.1, 362, .inr (.inl v16)))] 24 [] []) (rc9 : Int32 → (Nat → Int32) → (Nat → Int64) → (Nat → Int64) → Option ((Nat → Int32) × (Nat → Int64) × (Nat → Int64))) (hrc9 : ∀ (v5 : Int32) (v6 : (Nat → Int32)) (v7 : (Nat → Int64)) (v8 : (Nat → Int64)), jo X 3 (0, 0) (jQV X (fun (u : (Nat → Int32) × (Nat → Int64) × (Nat → Int64)) => [(h_, .inr (0, [g_rules, .ref h_words, g_plainKnown, g_exampleKey])), (h_words, .inr (10, [.ref h_words_costs, .ref h_words_highs, .ref h_words_lows])), (h_words_costs, .inl (tc.1, 362, .inl u.1)), (h_words_highs, .inl (tc.2.1, 362, .inr (.inl u.2.1))), (h_words_lows, .inl (tc.2.1, 362, .inr (.inl u.2.2)))])) (rc9 v5 v6 v7 v8) [(h_, .inr (0, [g_rules, .ref h_words, g_plainKnown, g_exampleKey])), (h_words, .inr (10, [.ref h_words_costs, .ref h_words_highs, .ref h_words_lows])), (h_words_costs, .inl (tc.1, 362, .inl v6)), (h_words_highs, .inl (tc.2.1, 362, .inr (.inl v7))), (h_words_lows, .inl (tc.2.1, 362, .inr (.inl v8)))] 2 [(0, .ref h_), (1, .int p1), (2, .int v5)] []) (v5 : Int32) (v6 : (Nat → Int32)) (v7 : (Nat → Int64)) (v8 : (Nat → Int64)) : jo X 3 (0, 0) (jQV X (fun (u : (Nat → Int32) × (Nat → Int64) × (Nat → Int64)) => [(h_, .inr (0, [g_rules, .ref h_words, g_plainKnown, g_exampleKey])), (h_words, .inr (10, [.ref h_words_costs, .ref h_words_highs, .ref h_words_lows])), (h_words_costs, .inl (tc.1, 362, .inl u.1)), (h_words_highs, .inl (tc.2.1, 362, .inr (.inl u.2.1))), (h_words_lows, .inl (tc.2.1, 362, .inr (.inl u.2.2)))])) (bX0_forgetKind_2 p1 k4 rc9 v5 v6 v7 v8) [(h_, .inr (0, [g_rules, .ref h_words, g_plainKnown, g_exampleKey])), (h_words, .inr (10, [.ref h_words_costs, .ref h_words_highs, .ref h_words_lows])), (h_words_costs, .inl (tc.1, 362, .inl v6)), (h_words_highs, .inl (tc.2.1, 362, .inr (.inl v7))), (h_words_lows, .inl (tc.2.1, 362, .inr (.inl v8)))] 2 [(0, .ref h_), (1, .int p1), (2, .int v5)] [] := by
  unfold bX0_forgetKind_2
  refine j_iload C d0_forgetKind_2 2 rfl ?_
  refine j_const C d0_forgetKind_3 ?_
  refine j_icmp_ge C d0_forgetKind_5 ?_ ?_
  · exact j_sub [] rfl (hk4 _ _ _)
  · refine j_aload C d0_forgetKind_8 0 rfl ?_
    refine j_get C d0_forgetKind_9 fl0_16 0 rfl rfl ?_
    refine j_iload C d0_forgetKind_12 1 rfl ?_
    refine j_iload C d0_forgetKind_13 2 rfl ?_
    refine j_iadd C d0_forgetKind_14 ?_
    refine j_callVV3 (As := [.int (p1 + v5)]) C d0_forgetKind_15 mv0_55 (kX10_putNone _ _ tc 362 h_words h_words_costs h_words_highs h_words_lows v6 v7 v8 (p1 + v5)) ⟨rfl, rfl, Nat.le_of_ble_eq_true rfl, Nat.le_of_ble_eq_true rfl⟩ rfl 1 rfl [1, 2, 3, 4] rfl rfl rfl (Nat.le_of_ble_eq_true rfl) (fun o10 o11 o12 => [(h_, .inr (0, [g_rules, .ref h_words, g_plainKnown, g_exampleKey])), (h_words, .inr (10, [.ref h_words_costs, .ref h_words_highs, .ref h_words_lows])), (h_words_costs, .inl (tc.1, 362, .inl o10)), (h_words_highs, .inl (tc.2.1, 362, .inr (.inl o11))), (h_words_lows, .inl (tc.2.1, 362, .inr (.inl o12)))]) [(false, 0), (true, 0), (true, 1), (true, 2), (true, 3)] (fun _ => rfl) (by decide +kernel) (fun o10 o11 o12 => ?_)
    refine j_iincN C (fun x13 => [(2, .int x13), (0, .ref h_), (1, .int p1)]) d0_forgetKind_18 2 rfl (by decide +kernel) (by decide) (fun _ => rfl) (fun x13 => ?_)
    refine j_goto C d0_forgetKind_21 ?_
    exact j_sub [1, 2, 0] rfl (hrc9 _ _ _ _)

set_option maxHeartbeats 4000000 in
set_option maxRecDepth 100000 in
theorem kX0_forgetKind (l : Launch) (D : va_G) (tc : jTC) (N : Nat) (h_ h_words h_words_costs h_words_highs h_words_lows : Nat) (g_rules g_plainKnown g_exampleKey : Value) (c_words_costs : (Nat → Int32)) (c_words_highs : (Nat → Int64)) (c_words_lows : (Nat → Int64)) (p1 : Int32) : ctV l D tc yX0_forgetKind (Cond.code yX0_forgetKind cX0_forgetKind 3 none :: jtb) ({ frames := 2, cells := 0, slots := 0, locals := 47 } : Room) [.ref h_, .int p1] [(h_, .inr (0, [g_rules, .ref h_words, g_plainKnown, g_exampleKey])), (h_words, .inr (10, [.ref h_words_costs, .ref h_words_highs, .ref h_words_lows])), (h_words_costs, .inl (tc.1, 362, .inl c_words_costs)), (h_words_highs, .inl (tc.2.1, 362, .inr (.inl c_words_highs))), (h_words_lows, .inl (tc.2.1, 362, .inr (.inl c_words_lows)))] (fX0_forgetKind N c_words_costs c_words_highs c_words_lows p1) (fun (u : (Nat → Int32) × (Nat → Int64) × (Nat → Int64)) => [(h_, .inr (0, [g_rules, .ref h_words, g_plainKnown, g_exampleKey])), (h_words, .inr (10, [.ref h_words_costs, .ref h_words_highs, .ref h_words_lows])), (h_words_costs, .inl (tc.1, 362, .inl u.1)), (h_words_highs, .inl (tc.2.1, 362, .inr (.inl u.2.1))), (h_words_lows, .inl (tc.2.1, 362, .inr (.inl u.2.2)))]) := by
  refine ctV_of (lv0 := [(0, .ref h_), (1, .int p1)]) (by decide +kernel) (Nat.le_of_ble_eq_true rfl) rfl (fun X C => ?_)
  unfold fX0_forgetKind
  refine j_const C d0_forgetKind_0 ?_
  refine j_istore C d0_forgetKind_1 (by decide) (lv' := [(2, .int 0), (0, .ref h_), (1, .int p1)]) rfl ?_
  refine j_join3 24 (fun v1 v2 v3 => [(h_, .inr (0, [g_rules, .ref h_words, g_plainKnown, g_exampleKey])), (h_words, .inr (10, [.ref h_words_costs, .ref h_words_highs, .ref h_words_lows])), (h_words_costs, .inl (tc.1, 362, .inl v1)), (h_words_highs, .inl (tc.2.1, 362, .inr (.inl v2))), (h_words_lows, .inl (tc.2.1, 362, .inr (.inl v3)))]) (fun v1 v2 v3 => []) (fun v1 v2 v3 => []) (fun v1 v2 v3 => ?_) (fun k4 hk4 => ?_)
  · exact j_vret C d0_forgetKind_24 rfl
  · exact j_sub [1, 2, 0] rfl (j_loop4 (fun v5 v6 v7 v8 => [(h_, .inr (0, [g_rules, .ref h_words, g_plainKnown, g_exampleKey])), (h_words, .inr (10, [.ref h_words_costs, .ref h_words_highs, .ref h_words_lows])), (h_words_costs, .inl (tc.1, 362, .inl v6)), (h_words_highs, .inl (tc.2.1, 362, .inr (.inl v7))), (h_words_lows, .inl (tc.2.1, 362, .inr (.inl v8)))]) (fun v5 v6 v7 v8 => [(0, .ref h_), (1, .int p1), (2, .int v5)]) (fun rc9 hrc9 v5 v6 v7 v8 => wX0_forgetKind_2 C h_ h_words h_words_costs h_words_highs h_words_lows g_rules g_plainKnown g_exampleKey p1 k4 hk4 rc9 hrc9 v5 v6 v7 v8) N _ _ _ _)

theorem d10_putTerminal_0 : jda cX10_putTerminal 0 0 1 := Or.inl ⟨0, by decide +kernel⟩
theorem d10_putTerminal_1 : jdi cX10_putTerminal 1 1 2 := Or.inl ⟨1, by decide +kernel⟩
theorem d10_putTerminal_2 : jdk cX10_putTerminal 2 1024 5 := Or.inr (Or.inr ⟨1024, by decide +kernel⟩)
theorem d10_putTerminal_5 : jdi cX10_putTerminal 5 3 6 := Or.inl ⟨3, by decide +kernel⟩
theorem d10_putTerminal_6 : jd cX10_putTerminal 6 (.iadd) 1 7 := by decide +kernel
theorem d10_putTerminal_7 : jd cX10_putTerminal 7 (.lconst 0) 1 8 := by decide +kernel
theorem d10_putTerminal_8 : jdi cX10_putTerminal 8 2 9 := Or.inl ⟨2, by decide +kernel⟩
theorem d10_putTerminal_9 : jd cX10_putTerminal 9 (.i2l) 1 10 := by decide +kernel
theorem d10_putTerminal_10 : jd cX10_putTerminal 10 (.invokevirtual 37) 3 13 := by decide +kernel
theorem d10_putTerminal_13 : decode cX10_putTerminal 13 = .ok (.return_, 1) := by decide +kernel
set_option maxHeartbeats 4000000 in
set_option maxRecDepth 100000 in
theorem kX10_putTerminal (l : Launch) (D : va_G) (tc : jTC) (n : Nat) (h_ h_costs h_highs h_lows : Nat) (c_costs : (Nat → Int32)) (c_highs : (Nat → Int64)) (c_lows : (Nat → Int64)) (p1 : Int32) (p2 : Int32) (p3 : Int32) : ctV l D tc yX10_putTerminal (Cond.code yX10_putTerminal cX10_putTerminal 4 none :: jtb) ({ frames := 1, cells := 0, slots := 0, locals := 26 } : Room) [.ref h_, .int p1, .int p2, .int p3] [(h_, .inr (10, [.ref h_costs, .ref h_highs, .ref h_lows])), (h_costs, .inl (tc.1, n, .inl c_costs)), (h_highs, .inl (tc.2.1, n, .inr (.inl c_highs))), (h_lows, .inl (tc.2.1, n, .inr (.inl c_lows)))] (fX10_putTerminal n c_costs c_highs c_lows p1 p2 p3) (fun (u : (Nat → Int32) × (Nat → Int64) × (Nat → Int64)) => [(h_, .inr (10, [.ref h_costs, .ref h_highs, .ref h_lows])), (h_costs, .inl (tc.1, n, .inl u.1)), (h_highs, .inl (tc.2.1, n, .inr (.inl u.2.1))), (h_lows, .inl (tc.2.1, n, .inr (.inl u.2.2)))]) := by
  refine ctV_of (lv0 := [(0, .ref h_), (1, .int p1), (2, .int p2), (3, .int p3)]) (by decide +kernel) (Nat.le_of_ble_eq_true rfl) rfl (fun X C => ?_)
  unfold fX10_putTerminal
  refine j_aload C d10_putTerminal_0 0 rfl ?_
  refine j_iload C d10_putTerminal_1 1 rfl ?_
  refine j_const C d10_putTerminal_2 ?_
  refine j_iload C d10_putTerminal_5 3 rfl ?_
  refine j_iadd C d10_putTerminal_6 ?_
  refine j_lconst C d10_putTerminal_7 (by decide +kernel) ?_ (v := 0)
  refine j_iload C d10_putTerminal_8 2 rfl ?_
  refine j_i2l C d10_putTerminal_9 ?_
  refine j_callVV3 (As := [.int p1, .int ((1024 : Int32) + p3), .long 0, .long ((p2 : Int32).toInt64)]) C d10_putTerminal_10 mv10_37 (kX10_put _ _ tc n h_ h_costs h_highs h_lows c_costs c_highs c_lows p1 ((1024 : Int32) + p3) 0 ((p2 : Int32).toInt64)) ⟨rfl, rfl, Nat.le_of_ble_eq_true rfl, Nat.le_of_ble_eq_true rfl⟩ rfl 0 rfl [0, 1, 2, 3] rfl rfl rfl (Nat.le_of_ble_eq_true rfl) (fun o1 o2 o3 => [(h_, .inr (10, [.ref h_costs, .ref h_highs, .ref h_lows])), (h_costs, .inl (tc.1, n, .inl o1)), (h_highs, .inl (tc.2.1, n, .inr (.inl o2))), (h_lows, .inl (tc.2.1, n, .inr (.inl o3)))]) [(true, 0), (true, 1), (true, 2), (true, 3)] (fun _ => rfl) (by decide +kernel) (fun o1 o2 o3 => ?_)
  exact j_vret C d10_putTerminal_13 rfl

theorem d6_lengthOf_0 : jdi cX6_lengthOf 0 0 1 := Or.inl ⟨0, by decide +kernel⟩
theorem d6_lengthOf_1 : jdk cX6_lengthOf 1 3 2 := Or.inl ⟨3, by decide +kernel⟩
theorem d6_lengthOf_2 : jd cX6_lengthOf 2 (.ishr) 1 3 := by decide +kernel
theorem d6_lengthOf_3 : jdk cX6_lengthOf 3 7 5 := Or.inr (Or.inl ⟨7, by decide +kernel⟩)
theorem d6_lengthOf_5 : jd cX6_lengthOf 5 (.iand) 1 6 := by decide +kernel
theorem d6_lengthOf_6 : decode cX6_lengthOf 6 = .ok (.ireturn, 1) := by decide +kernel
set_option maxHeartbeats 4000000 in
set_option maxRecDepth 100000 in
theorem kX6_lengthOf (l : Launch) (D : va_G) (tc : jTC) (p0 : Int32) : ctI0 l D tc yX6_lengthOf (Cond.code yX6_lengthOf cX6_lengthOf 1 (some .int) :: jtb) ({ frames := 0, cells := 0, slots := 0, locals := 0 } : Room) [.int p0] [] (fX6_lengthOf p0) := by
  refine ctI0_of (lv0 := [(0, .int p0)]) (by decide +kernel) (Nat.le_of_ble_eq_true rfl) rfl (fun X C => ?_)
  unfold fX6_lengthOf
  refine j_iload C d6_lengthOf_0 0 rfl ?_
  refine j_const C d6_lengthOf_1 ?_
  refine j_ishr C d6_lengthOf_2 ?_
  refine j_const C d6_lengthOf_3 ?_
  refine j_iand C d6_lengthOf_5 ?_
  exact j_iret0 C d6_lengthOf_6

theorem d0_plainTail_0 : jdk cX0_plainTail 0 74 2 := Or.inr (Or.inl ⟨74, by decide +kernel⟩)
theorem d0_plainTail_2 : jdi cX0_plainTail 2 0 3 := Or.inl ⟨0, by decide +kernel⟩
theorem d0_plainTail_3 : jdk cX0_plainTail 3 6 5 := Or.inr (Or.inl ⟨6, by decide +kernel⟩)
theorem d0_plainTail_5 : jd cX0_plainTail 5 (.imul) 1 6 := by decide +kernel
theorem d0_plainTail_6 : jd cX0_plainTail 6 (.iadd) 1 7 := by decide +kernel
theorem d0_plainTail_7 : jdi cX0_plainTail 7 1 8 := Or.inl ⟨1, by decide +kernel⟩
theorem d0_plainTail_8 : jd cX0_plainTail 8 (.iadd) 1 9 := by decide +kernel
theorem d0_plainTail_9 : decode cX0_plainTail 9 = .ok (.ireturn, 1) := by decide +kernel
set_option maxHeartbeats 4000000 in
set_option maxRecDepth 100000 in
theorem kX0_plainTail (l : Launch) (D : va_G) (tc : jTC) (p0 : Int32) (p1 : Int32) : ctI0 l D tc yX0_plainTail (Cond.code yX0_plainTail cX0_plainTail 2 (some .int) :: jtb) ({ frames := 0, cells := 0, slots := 0, locals := 0 } : Room) [.int p0, .int p1] [] (fX0_plainTail p0 p1) := by
  refine ctI0_of (lv0 := [(0, .int p0), (1, .int p1)]) (by decide +kernel) (Nat.le_of_ble_eq_true rfl) rfl (fun X C => ?_)
  unfold fX0_plainTail
  refine j_const C d0_plainTail_0 ?_
  refine j_iload C d0_plainTail_2 0 rfl ?_
  refine j_const C d0_plainTail_3 ?_
  refine j_imul C d0_plainTail_5 ?_
  refine j_iadd C d0_plainTail_6 ?_
  refine j_iload C d0_plainTail_7 1 rfl ?_
  refine j_iadd C d0_plainTail_8 ?_
  exact j_iret0 C d0_plainTail_9

theorem d10_putEmpty_0 : jda cX10_putEmpty 0 0 1 := Or.inl ⟨0, by decide +kernel⟩
theorem d10_putEmpty_1 : jdi cX10_putEmpty 1 1 2 := Or.inl ⟨1, by decide +kernel⟩
theorem d10_putEmpty_2 : jdk cX10_putEmpty 2 0 3 := Or.inl ⟨0, by decide +kernel⟩
theorem d10_putEmpty_3 : jd cX10_putEmpty 3 (.lconst 0) 1 4 := by decide +kernel
theorem d10_putEmpty_4 : jd cX10_putEmpty 4 (.lconst 0) 1 5 := by decide +kernel
theorem d10_putEmpty_5 : jd cX10_putEmpty 5 (.invokevirtual 37) 3 8 := by decide +kernel
theorem d10_putEmpty_8 : decode cX10_putEmpty 8 = .ok (.return_, 1) := by decide +kernel
set_option maxHeartbeats 4000000 in
set_option maxRecDepth 100000 in
theorem kX10_putEmpty (l : Launch) (D : va_G) (tc : jTC) (n : Nat) (h_ h_costs h_highs h_lows : Nat) (c_costs : (Nat → Int32)) (c_highs : (Nat → Int64)) (c_lows : (Nat → Int64)) (p1 : Int32) : ctV l D tc yX10_putEmpty (Cond.code yX10_putEmpty cX10_putEmpty 2 none :: jtb) ({ frames := 1, cells := 0, slots := 0, locals := 26 } : Room) [.ref h_, .int p1] [(h_, .inr (10, [.ref h_costs, .ref h_highs, .ref h_lows])), (h_costs, .inl (tc.1, n, .inl c_costs)), (h_highs, .inl (tc.2.1, n, .inr (.inl c_highs))), (h_lows, .inl (tc.2.1, n, .inr (.inl c_lows)))] (fX10_putEmpty n c_costs c_highs c_lows p1) (fun (u : (Nat → Int32) × (Nat → Int64) × (Nat → Int64)) => [(h_, .inr (10, [.ref h_costs, .ref h_highs, .ref h_lows])), (h_costs, .inl (tc.1, n, .inl u.1)), (h_highs, .inl (tc.2.1, n, .inr (.inl u.2.1))), (h_lows, .inl (tc.2.1, n, .inr (.inl u.2.2)))]) := by
  refine ctV_of (lv0 := [(0, .ref h_), (1, .int p1)]) (by decide +kernel) (Nat.le_of_ble_eq_true rfl) rfl (fun X C => ?_)
  unfold fX10_putEmpty
  refine j_aload C d10_putEmpty_0 0 rfl ?_
  refine j_iload C d10_putEmpty_1 1 rfl ?_
  refine j_const C d10_putEmpty_2 ?_
  refine j_lconst C d10_putEmpty_3 (by decide +kernel) ?_ (v := 0)
  refine j_lconst C d10_putEmpty_4 (by decide +kernel) ?_ (v := 0)
  refine j_callVV3 (As := [.int p1, .int 0, .long 0, .long 0]) C d10_putEmpty_5 mv10_37 (kX10_put _ _ tc n h_ h_costs h_highs h_lows c_costs c_highs c_lows p1 0 0 0) ⟨rfl, rfl, Nat.le_of_ble_eq_true rfl, Nat.le_of_ble_eq_true rfl⟩ rfl 0 rfl [0, 1, 2, 3] rfl rfl rfl (Nat.le_of_ble_eq_true rfl) (fun o1 o2 o3 => [(h_, .inr (10, [.ref h_costs, .ref h_highs, .ref h_lows])), (h_costs, .inl (tc.1, n, .inl o1)), (h_highs, .inl (tc.2.1, n, .inr (.inl o2))), (h_lows, .inl (tc.2.1, n, .inr (.inl o3)))]) [(true, 0), (true, 1), (true, 2), (true, 3)] (fun _ => rfl) (by decide +kernel) (fun o1 o2 o3 => ?_)
  exact j_vret C d10_putEmpty_8 rfl

theorem d6_symbolOf_0 : jdi cX6_symbolOf 0 0 1 := Or.inl ⟨0, by decide +kernel⟩
theorem d6_symbolOf_1 : jdk cX6_symbolOf 1 6 3 := Or.inr (Or.inl ⟨6, by decide +kernel⟩)
theorem d6_symbolOf_3 : jdk cX6_symbolOf 3 5 4 := Or.inl ⟨5, by decide +kernel⟩
theorem d6_symbolOf_4 : jdi cX6_symbolOf 4 1 5 := Or.inl ⟨1, by decide +kernel⟩
theorem d6_symbolOf_5 : jd cX6_symbolOf 5 (.imul) 1 6 := by decide +kernel
theorem d6_symbolOf_6 : jd cX6_symbolOf 6 (.iadd) 1 7 := by decide +kernel
theorem d6_symbolOf_7 : jd cX6_symbolOf 7 (.ishr) 1 8 := by decide +kernel
theorem d6_symbolOf_8 : jdk cX6_symbolOf 8 31 10 := Or.inr (Or.inl ⟨31, by decide +kernel⟩)
theorem d6_symbolOf_10 : jd cX6_symbolOf 10 (.iand) 1 11 := by decide +kernel
theorem d6_symbolOf_11 : decode cX6_symbolOf 11 = .ok (.ireturn, 1) := by decide +kernel
set_option maxHeartbeats 4000000 in
set_option maxRecDepth 100000 in
theorem kX6_symbolOf (l : Launch) (D : va_G) (tc : jTC) (p0 : Int32) (p1 : Int32) : ctI0 l D tc yX6_symbolOf (Cond.code yX6_symbolOf cX6_symbolOf 2 (some .int) :: jtb) ({ frames := 0, cells := 0, slots := 0, locals := 0 } : Room) [.int p0, .int p1] [] (fX6_symbolOf p0 p1) := by
  refine ctI0_of (lv0 := [(0, .int p0), (1, .int p1)]) (by decide +kernel) (Nat.le_of_ble_eq_true rfl) rfl (fun X C => ?_)
  unfold fX6_symbolOf
  refine j_iload C d6_symbolOf_0 0 rfl ?_
  refine j_const C d6_symbolOf_1 ?_
  refine j_const C d6_symbolOf_3 ?_
  refine j_iload C d6_symbolOf_4 1 rfl ?_
  refine j_imul C d6_symbolOf_5 ?_
  refine j_iadd C d6_symbolOf_6 ?_
  refine j_ishr C d6_symbolOf_7 ?_
  refine j_const C d6_symbolOf_8 ?_
  refine j_iand C d6_symbolOf_10 ?_
  exact j_iret0 C d6_symbolOf_11

theorem d10_putCopy_0 : jda cX10_putCopy 0 0 1 := Or.inl ⟨0, by decide +kernel⟩
theorem d10_putCopy_1 : jdi cX10_putCopy 1 1 2 := Or.inl ⟨1, by decide +kernel⟩
theorem d10_putCopy_2 : jda cX10_putCopy 2 0 3 := Or.inl ⟨0, by decide +kernel⟩
theorem d10_putCopy_3 : jd cX10_putCopy 3 (.getfield 17) 3 6 := by decide +kernel
theorem d10_putCopy_6 : jdi cX10_putCopy 6 2 7 := Or.inl ⟨2, by decide +kernel⟩
theorem d10_putCopy_7 : jd cX10_putCopy 7 (.iaload) 1 8 := by decide +kernel
theorem d10_putCopy_8 : jda cX10_putCopy 8 0 9 := Or.inl ⟨0, by decide +kernel⟩
theorem d10_putCopy_9 : jd cX10_putCopy 9 (.getfield 21) 3 12 := by decide +kernel
theorem d10_putCopy_12 : jdi cX10_putCopy 12 2 13 := Or.inl ⟨2, by decide +kernel⟩
theorem d10_putCopy_13 : jd cX10_putCopy 13 (.laload) 1 14 := by decide +kernel
theorem d10_putCopy_14 : jda cX10_putCopy 14 0 15 := Or.inl ⟨0, by decide +kernel⟩
theorem d10_putCopy_15 : jd cX10_putCopy 15 (.getfield 25) 3 18 := by decide +kernel
theorem d10_putCopy_18 : jdi cX10_putCopy 18 2 19 := Or.inl ⟨2, by decide +kernel⟩
theorem d10_putCopy_19 : jd cX10_putCopy 19 (.laload) 1 20 := by decide +kernel
theorem d10_putCopy_20 : jd cX10_putCopy 20 (.invokevirtual 37) 3 23 := by decide +kernel
theorem d10_putCopy_23 : decode cX10_putCopy 23 = .ok (.return_, 1) := by decide +kernel
set_option maxHeartbeats 4000000 in
set_option maxRecDepth 100000 in
theorem kX10_putCopy (l : Launch) (D : va_G) (tc : jTC) (n : Nat) (h_ h_costs h_highs h_lows : Nat) (c_costs : (Nat → Int32)) (c_highs : (Nat → Int64)) (c_lows : (Nat → Int64)) (p1 : Int32) (p2 : Int32) : ctV l D tc yX10_putCopy (Cond.code yX10_putCopy cX10_putCopy 3 none :: jtb) ({ frames := 1, cells := 0, slots := 0, locals := 26 } : Room) [.ref h_, .int p1, .int p2] [(h_, .inr (10, [.ref h_costs, .ref h_highs, .ref h_lows])), (h_costs, .inl (tc.1, n, .inl c_costs)), (h_highs, .inl (tc.2.1, n, .inr (.inl c_highs))), (h_lows, .inl (tc.2.1, n, .inr (.inl c_lows)))] (fX10_putCopy n c_costs c_highs c_lows p1 p2) (fun (u : (Nat → Int32) × (Nat → Int64) × (Nat → Int64)) => [(h_, .inr (10, [.ref h_costs, .ref h_highs, .ref h_lows])), (h_costs, .inl (tc.1, n, .inl u.1)), (h_highs, .inl (tc.2.1, n, .inr (.inl u.2.1))), (h_lows, .inl (tc.2.1, n, .inr (.inl u.2.2)))]) := by
  refine ctV_of (lv0 := [(0, .ref h_), (1, .int p1), (2, .int p2)]) (by decide +kernel) (Nat.le_of_ble_eq_true rfl) rfl (fun X C => ?_)
  unfold fX10_putCopy
  refine j_aload C d10_putCopy_0 0 rfl ?_
  refine j_iload C d10_putCopy_1 1 rfl ?_
  refine j_aload C d10_putCopy_2 0 rfl ?_
  refine j_get C d10_putCopy_3 fl10_17 0 rfl rfl ?_
  refine j_iload C d10_putCopy_6 2 rfl ?_
  refine j_iald C d10_putCopy_7 1 rfl (fun x1 => ?_)
  refine j_aload C d10_putCopy_8 0 rfl ?_
  refine j_get C d10_putCopy_9 fl10_21 0 rfl rfl ?_
  refine j_iload C d10_putCopy_12 2 rfl ?_
  refine j_lald C d10_putCopy_13 2 rfl (fun x2 => ?_)
  refine j_aload C d10_putCopy_14 0 rfl ?_
  refine j_get C d10_putCopy_15 fl10_25 0 rfl rfl ?_
  refine j_iload C d10_putCopy_18 2 rfl ?_
  refine j_lald C d10_putCopy_19 3 rfl (fun x3 => ?_)
  refine j_callVV3 (As := [.int p1, .int x1, .long x2, .long x3]) C d10_putCopy_20 mv10_37 (kX10_put _ _ tc n h_ h_costs h_highs h_lows c_costs c_highs c_lows p1 x1 x2 x3) ⟨rfl, rfl, Nat.le_of_ble_eq_true rfl, Nat.le_of_ble_eq_true rfl⟩ rfl 0 rfl [0, 1, 2, 3] rfl rfl rfl (Nat.le_of_ble_eq_true rfl) (fun o4 o5 o6 => [(h_, .inr (10, [.ref h_costs, .ref h_highs, .ref h_lows])), (h_costs, .inl (tc.1, n, .inl o4)), (h_highs, .inl (tc.2.1, n, .inr (.inl o5))), (h_lows, .inl (tc.2.1, n, .inr (.inl o6)))]) [(true, 0), (true, 1), (true, 2), (true, 3)] (fun _ => rfl) (by decide +kernel) (fun o4 o5 o6 => ?_)
  exact j_vret C d10_putCopy_23 rfl

theorem d10_joinedHigh_0 : jdk cX10_joinedHigh 0 3 1 := Or.inl ⟨3, by decide +kernel⟩
theorem d10_joinedHigh_1 : jda cX10_joinedHigh 1 0 2 := Or.inl ⟨0, by decide +kernel⟩
theorem d10_joinedHigh_2 : jd cX10_joinedHigh 2 (.getfield 17) 3 5 := by decide +kernel
theorem d10_joinedHigh_5 : jdi cX10_joinedHigh 5 2 6 := Or.inl ⟨2, by decide +kernel⟩
theorem d10_joinedHigh_6 : jd cX10_joinedHigh 6 (.iaload) 1 7 := by decide +kernel
theorem d10_joinedHigh_7 : jdk cX10_joinedHigh 7 10 9 := Or.inr (Or.inl ⟨10, by decide +kernel⟩)
theorem d10_joinedHigh_9 : jd cX10_joinedHigh 9 (.ishr) 1 10 := by decide +kernel
theorem d10_joinedHigh_10 : jd cX10_joinedHigh 10 (.imul) 1 11 := by decide +kernel
theorem d10_joinedHigh_11 : jds cX10_joinedHigh 11 3 12 := Or.inl ⟨3, by decide +kernel⟩
theorem d10_joinedHigh_12 : jdi cX10_joinedHigh 12 3 13 := Or.inl ⟨3, by decide +kernel⟩
theorem d10_joinedHigh_13 : jdk cX10_joinedHigh 13 60 15 := Or.inr (Or.inl ⟨60, by decide +kernel⟩)
theorem d10_joinedHigh_15 : jdb cX10_joinedHigh 15 (.if_icmp .lt 22) 22 37 18 := by decide +kernel
theorem d10_joinedHigh_18 : jda cX10_joinedHigh 18 0 19 := Or.inl ⟨0, by decide +kernel⟩
theorem d10_joinedHigh_19 : jd cX10_joinedHigh 19 (.getfield 25) 3 22 := by decide +kernel
theorem d10_joinedHigh_22 : jdi cX10_joinedHigh 22 1 23 := Or.inl ⟨1, by decide +kernel⟩
theorem d10_joinedHigh_23 : jd cX10_joinedHigh 23 (.laload) 1 24 := by decide +kernel
theorem d10_joinedHigh_24 : jdi cX10_joinedHigh 24 3 25 := Or.inl ⟨3, by decide +kernel⟩
theorem d10_joinedHigh_25 : jdk cX10_joinedHigh 25 60 27 := Or.inr (Or.inl ⟨60, by decide +kernel⟩)
theorem d10_joinedHigh_27 : jd cX10_joinedHigh 27 (.isub) 1 28 := by decide +kernel
theorem d10_joinedHigh_28 : jd cX10_joinedHigh 28 (.lshl) 1 29 := by decide +kernel
theorem d10_joinedHigh_29 : jda cX10_joinedHigh 29 0 30 := Or.inl ⟨0, by decide +kernel⟩
theorem d10_joinedHigh_30 : jd cX10_joinedHigh 30 (.getfield 21) 3 33 := by decide +kernel
theorem d10_joinedHigh_33 : jdi cX10_joinedHigh 33 2 34 := Or.inl ⟨2, by decide +kernel⟩
theorem d10_joinedHigh_34 : jd cX10_joinedHigh 34 (.laload) 1 35 := by decide +kernel
theorem d10_joinedHigh_35 : jd cX10_joinedHigh 35 (.lor) 1 36 := by decide +kernel
theorem d10_joinedHigh_36 : decode cX10_joinedHigh 36 = .ok (.lreturn, 1) := by decide +kernel
theorem d10_joinedHigh_37 : jda cX10_joinedHigh 37 0 38 := Or.inl ⟨0, by decide +kernel⟩
theorem d10_joinedHigh_38 : jd cX10_joinedHigh 38 (.getfield 21) 3 41 := by decide +kernel
theorem d10_joinedHigh_41 : jdi cX10_joinedHigh 41 1 42 := Or.inl ⟨1, by decide +kernel⟩
theorem d10_joinedHigh_42 : jd cX10_joinedHigh 42 (.laload) 1 43 := by decide +kernel
theorem d10_joinedHigh_43 : jdi cX10_joinedHigh 43 3 44 := Or.inl ⟨3, by decide +kernel⟩
theorem d10_joinedHigh_44 : jd cX10_joinedHigh 44 (.lshl) 1 45 := by decide +kernel
theorem d10_joinedHigh_45 : jda cX10_joinedHigh 45 0 46 := Or.inl ⟨0, by decide +kernel⟩
theorem d10_joinedHigh_46 : jd cX10_joinedHigh 46 (.getfield 25) 3 49 := by decide +kernel
theorem d10_joinedHigh_49 : jdi cX10_joinedHigh 49 1 50 := Or.inl ⟨1, by decide +kernel⟩
theorem d10_joinedHigh_50 : jd cX10_joinedHigh 50 (.laload) 1 51 := by decide +kernel
theorem d10_joinedHigh_51 : jdk cX10_joinedHigh 51 60 53 := Or.inr (Or.inl ⟨60, by decide +kernel⟩)
theorem d10_joinedHigh_53 : jdi cX10_joinedHigh 53 3 54 := Or.inl ⟨3, by decide +kernel⟩
theorem d10_joinedHigh_54 : jd cX10_joinedHigh 54 (.isub) 1 55 := by decide +kernel
theorem d10_joinedHigh_55 : jd cX10_joinedHigh 55 (.lshr) 1 56 := by decide +kernel
theorem d10_joinedHigh_56 : jd cX10_joinedHigh 56 (.lor) 1 57 := by decide +kernel
theorem d10_joinedHigh_57 : jda cX10_joinedHigh 57 0 58 := Or.inl ⟨0, by decide +kernel⟩
theorem d10_joinedHigh_58 : jd cX10_joinedHigh 58 (.getfield 21) 3 61 := by decide +kernel
theorem d10_joinedHigh_61 : jdi cX10_joinedHigh 61 2 62 := Or.inl ⟨2, by decide +kernel⟩
theorem d10_joinedHigh_62 : jd cX10_joinedHigh 62 (.laload) 1 63 := by decide +kernel
theorem d10_joinedHigh_63 : jd cX10_joinedHigh 63 (.lor) 1 64 := by decide +kernel
theorem d10_joinedHigh_64 : decode cX10_joinedHigh 64 = .ok (.lreturn, 1) := by decide +kernel
set_option maxHeartbeats 4000000 in
set_option maxRecDepth 100000 in
theorem kX10_joinedHigh (l : Launch) (D : va_G) (tc : jTC) (n : Nat) (h_ h_costs h_highs h_lows : Nat) (c_costs : (Nat → Int32)) (c_highs : (Nat → Int64)) (c_lows : (Nat → Int64)) (p1 : Int32) (p2 : Int32) : ctL0 l D tc yX10_joinedHigh (Cond.code yX10_joinedHigh cX10_joinedHigh 4 (some .long) :: jtb) ({ frames := 0, cells := 0, slots := 0, locals := 0 } : Room) [.ref h_, .int p1, .int p2] [(h_, .inr (10, [.ref h_costs, .ref h_highs, .ref h_lows])), (h_costs, .inl (tc.1, n, .inl c_costs)), (h_highs, .inl (tc.2.1, n, .inr (.inl c_highs))), (h_lows, .inl (tc.2.1, n, .inr (.inl c_lows)))] (fX10_joinedHigh n c_costs c_highs c_lows p1 p2) := by
  refine ctL0_of (lv0 := [(0, .ref h_), (1, .int p1), (2, .int p2)]) (by decide +kernel) (Nat.le_of_ble_eq_true rfl) rfl (fun X C => ?_)
  unfold fX10_joinedHigh
  refine j_const C d10_joinedHigh_0 ?_
  refine j_aload C d10_joinedHigh_1 0 rfl ?_
  refine j_get C d10_joinedHigh_2 fl10_17 0 rfl rfl ?_
  refine j_iload C d10_joinedHigh_5 2 rfl ?_
  refine j_iald C d10_joinedHigh_6 1 rfl (fun x1 => ?_)
  refine j_const C d10_joinedHigh_7 ?_
  refine j_ishr C d10_joinedHigh_9 ?_
  refine j_imul C d10_joinedHigh_10 ?_
  refine j_leti (fun x2 => ?_)
  refine j_istore C d10_joinedHigh_11 (by decide) (lv' := [(3, .int x2), (0, .ref h_), (1, .int p1), (2, .int p2)]) rfl ?_
  refine j_iload C d10_joinedHigh_12 0 rfl ?_
  refine j_const C d10_joinedHigh_13 ?_
  refine j_icmp_lt C d10_joinedHigh_15 ?_ ?_
  · refine j_aload C d10_joinedHigh_37 1 rfl ?_
    refine j_get C d10_joinedHigh_38 fl10_21 0 rfl rfl ?_
    refine j_iload C d10_joinedHigh_41 2 rfl ?_
    refine j_lald C d10_joinedHigh_42 2 rfl (fun x3 => ?_)
    refine j_iload C d10_joinedHigh_43 0 rfl ?_
    refine j_lshl C d10_joinedHigh_44 ?_
    refine j_aload C d10_joinedHigh_45 1 rfl ?_
    refine j_get C d10_joinedHigh_46 fl10_25 0 rfl rfl ?_
    refine j_iload C d10_joinedHigh_49 2 rfl ?_
    refine j_lald C d10_joinedHigh_50 3 rfl (fun x4 => ?_)
    refine j_const C d10_joinedHigh_51 ?_
    refine j_iload C d10_joinedHigh_53 0 rfl ?_
    refine j_isub C d10_joinedHigh_54 ?_
    refine j_lshr C d10_joinedHigh_55 ?_
    refine j_lor C d10_joinedHigh_56 ?_
    refine j_aload C d10_joinedHigh_57 1 rfl ?_
    refine j_get C d10_joinedHigh_58 fl10_21 0 rfl rfl ?_
    refine j_iload C d10_joinedHigh_61 3 rfl ?_
    refine j_lald C d10_joinedHigh_62 2 rfl (fun x5 => ?_)
    refine j_lor C d10_joinedHigh_63 ?_
    exact j_lret0 C d10_joinedHigh_64
  · refine j_aload C d10_joinedHigh_18 1 rfl ?_
    refine j_get C d10_joinedHigh_19 fl10_25 0 rfl rfl ?_
    refine j_iload C d10_joinedHigh_22 2 rfl ?_
    refine j_lald C d10_joinedHigh_23 3 rfl (fun x6 => ?_)
    refine j_iload C d10_joinedHigh_24 0 rfl ?_
    refine j_const C d10_joinedHigh_25 ?_
    refine j_isub C d10_joinedHigh_27 ?_
    refine j_lshl C d10_joinedHigh_28 ?_
    refine j_aload C d10_joinedHigh_29 1 rfl ?_
    refine j_get C d10_joinedHigh_30 fl10_21 0 rfl rfl ?_
    refine j_iload C d10_joinedHigh_33 3 rfl ?_
    refine j_lald C d10_joinedHigh_34 2 rfl (fun x7 => ?_)
    refine j_lor C d10_joinedHigh_35 ?_
    exact j_lret0 C d10_joinedHigh_36

theorem d10_joinedLow_0 : jdk cX10_joinedLow 0 3 1 := Or.inl ⟨3, by decide +kernel⟩
theorem d10_joinedLow_1 : jda cX10_joinedLow 1 0 2 := Or.inl ⟨0, by decide +kernel⟩
theorem d10_joinedLow_2 : jd cX10_joinedLow 2 (.getfield 17) 3 5 := by decide +kernel
theorem d10_joinedLow_5 : jdi cX10_joinedLow 5 2 6 := Or.inl ⟨2, by decide +kernel⟩
theorem d10_joinedLow_6 : jd cX10_joinedLow 6 (.iaload) 1 7 := by decide +kernel
theorem d10_joinedLow_7 : jdk cX10_joinedLow 7 10 9 := Or.inr (Or.inl ⟨10, by decide +kernel⟩)
theorem d10_joinedLow_9 : jd cX10_joinedLow 9 (.ishr) 1 10 := by decide +kernel
theorem d10_joinedLow_10 : jd cX10_joinedLow 10 (.imul) 1 11 := by decide +kernel
theorem d10_joinedLow_11 : jds cX10_joinedLow 11 3 12 := Or.inl ⟨3, by decide +kernel⟩
theorem d10_joinedLow_12 : jdi cX10_joinedLow 12 3 13 := Or.inl ⟨3, by decide +kernel⟩
theorem d10_joinedLow_13 : jdk cX10_joinedLow 13 60 15 := Or.inr (Or.inl ⟨60, by decide +kernel⟩)
theorem d10_joinedLow_15 : jdb cX10_joinedLow 15 (.if_icmp .lt 10) 10 25 18 := by decide +kernel
theorem d10_joinedLow_18 : jda cX10_joinedLow 18 0 19 := Or.inl ⟨0, by decide +kernel⟩
theorem d10_joinedLow_19 : jd cX10_joinedLow 19 (.getfield 25) 3 22 := by decide +kernel
theorem d10_joinedLow_22 : jdi cX10_joinedLow 22 2 23 := Or.inl ⟨2, by decide +kernel⟩
theorem d10_joinedLow_23 : jd cX10_joinedLow 23 (.laload) 1 24 := by decide +kernel
theorem d10_joinedLow_24 : decode cX10_joinedLow 24 = .ok (.lreturn, 1) := by decide +kernel
theorem d10_joinedLow_25 : jda cX10_joinedLow 25 0 26 := Or.inl ⟨0, by decide +kernel⟩
theorem d10_joinedLow_26 : jd cX10_joinedLow 26 (.getfield 25) 3 29 := by decide +kernel
theorem d10_joinedLow_29 : jdi cX10_joinedLow 29 1 30 := Or.inl ⟨1, by decide +kernel⟩
theorem d10_joinedLow_30 : jd cX10_joinedLow 30 (.laload) 1 31 := by decide +kernel
theorem d10_joinedLow_31 : jdi cX10_joinedLow 31 3 32 := Or.inl ⟨3, by decide +kernel⟩
theorem d10_joinedLow_32 : jd cX10_joinedLow 32 (.lshl) 1 33 := by decide +kernel
theorem d10_joinedLow_33 : jd cX10_joinedLow 33 (.ldc2_w 41) 3 36 := by decide +kernel
theorem d10_joinedLow_36 : jd cX10_joinedLow 36 (.land) 1 37 := by decide +kernel
theorem d10_joinedLow_37 : jda cX10_joinedLow 37 0 38 := Or.inl ⟨0, by decide +kernel⟩
theorem d10_joinedLow_38 : jd cX10_joinedLow 38 (.getfield 25) 3 41 := by decide +kernel
theorem d10_joinedLow_41 : jdi cX10_joinedLow 41 2 42 := Or.inl ⟨2, by decide +kernel⟩
theorem d10_joinedLow_42 : jd cX10_joinedLow 42 (.laload) 1 43 := by decide +kernel
theorem d10_joinedLow_43 : jd cX10_joinedLow 43 (.lor) 1 44 := by decide +kernel
theorem d10_joinedLow_44 : decode cX10_joinedLow 44 = .ok (.lreturn, 1) := by decide +kernel
set_option maxHeartbeats 4000000 in
set_option maxRecDepth 100000 in
theorem kX10_joinedLow (l : Launch) (D : va_G) (tc : jTC) (n : Nat) (h_ h_costs h_lows : Nat) (g_highs : Value) (c_costs : (Nat → Int32)) (c_lows : (Nat → Int64)) (p1 : Int32) (p2 : Int32) : ctL0 l D tc yX10_joinedLow (Cond.code yX10_joinedLow cX10_joinedLow 4 (some .long) :: jtb) ({ frames := 0, cells := 0, slots := 0, locals := 0 } : Room) [.ref h_, .int p1, .int p2] [(h_, .inr (10, [.ref h_costs, g_highs, .ref h_lows])), (h_costs, .inl (tc.1, n, .inl c_costs)), (h_lows, .inl (tc.2.1, n, .inr (.inl c_lows)))] (fX10_joinedLow n c_costs c_lows p1 p2) := by
  refine ctL0_of (lv0 := [(0, .ref h_), (1, .int p1), (2, .int p2)]) (by decide +kernel) (Nat.le_of_ble_eq_true rfl) rfl (fun X C => ?_)
  unfold fX10_joinedLow
  refine j_const C d10_joinedLow_0 ?_
  refine j_aload C d10_joinedLow_1 0 rfl ?_
  refine j_get C d10_joinedLow_2 fl10_17 0 rfl rfl ?_
  refine j_iload C d10_joinedLow_5 2 rfl ?_
  refine j_iald C d10_joinedLow_6 1 rfl (fun x1 => ?_)
  refine j_const C d10_joinedLow_7 ?_
  refine j_ishr C d10_joinedLow_9 ?_
  refine j_imul C d10_joinedLow_10 ?_
  refine j_leti (fun x2 => ?_)
  refine j_istore C d10_joinedLow_11 (by decide) (lv' := [(3, .int x2), (0, .ref h_), (1, .int p1), (2, .int p2)]) rfl ?_
  refine j_iload C d10_joinedLow_12 0 rfl ?_
  refine j_const C d10_joinedLow_13 ?_
  refine j_icmp_lt C d10_joinedLow_15 ?_ ?_
  · refine j_aload C d10_joinedLow_25 1 rfl ?_
    refine j_get C d10_joinedLow_26 fl10_25 0 rfl rfl ?_
    refine j_iload C d10_joinedLow_29 2 rfl ?_
    refine j_lald C d10_joinedLow_30 2 rfl (fun x3 => ?_)
    refine j_iload C d10_joinedLow_31 0 rfl ?_
    refine j_lshl C d10_joinedLow_32 ?_
    refine j_ldc2 C d10_joinedLow_33 kc10_41 ?_
    refine j_land C d10_joinedLow_36 ?_
    refine j_aload C d10_joinedLow_37 1 rfl ?_
    refine j_get C d10_joinedLow_38 fl10_25 0 rfl rfl ?_
    refine j_iload C d10_joinedLow_41 3 rfl ?_
    refine j_lald C d10_joinedLow_42 2 rfl (fun x4 => ?_)
    refine j_lor C d10_joinedLow_43 ?_
    exact j_lret0 C d10_joinedLow_44
  · refine j_aload C d10_joinedLow_18 1 rfl ?_
    refine j_get C d10_joinedLow_19 fl10_25 0 rfl rfl ?_
    refine j_iload C d10_joinedLow_22 3 rfl ?_
    refine j_lald C d10_joinedLow_23 2 rfl (fun x5 => ?_)
    exact j_lret0 C d10_joinedLow_24

theorem d10_append_0 : jda cX10_append 0 0 1 := Or.inl ⟨0, by decide +kernel⟩
theorem d10_append_1 : jd cX10_append 1 (.getfield 17) 3 4 := by decide +kernel
theorem d10_append_4 : jdi cX10_append 4 1 5 := Or.inl ⟨1, by decide +kernel⟩
theorem d10_append_5 : jd cX10_append 5 (.iaload) 1 6 := by decide +kernel
theorem d10_append_6 : jda cX10_append 6 0 7 := Or.inl ⟨0, by decide +kernel⟩
theorem d10_append_7 : jd cX10_append 7 (.getfield 17) 3 10 := by decide +kernel
theorem d10_append_10 : jdi cX10_append 10 2 11 := Or.inl ⟨2, by decide +kernel⟩
theorem d10_append_11 : jd cX10_append 11 (.iaload) 1 12 := by decide +kernel
theorem d10_append_12 : jd cX10_append 12 (.iadd) 1 13 := by decide +kernel
theorem d10_append_13 : jds cX10_append 13 3 14 := Or.inl ⟨3, by decide +kernel⟩
theorem d10_append_14 : jdi cX10_append 14 3 15 := Or.inl ⟨3, by decide +kernel⟩
theorem d10_append_15 : jd cX10_append 15 (.ldc 28) 2 17 := by decide +kernel
theorem d10_append_17 : jdb cX10_append 17 (.if_icmp .lt 15) 15 32 20 := by decide +kernel
theorem d10_append_20 : jda cX10_append 20 0 21 := Or.inl ⟨0, by decide +kernel⟩
theorem d10_append_21 : jdi cX10_append 21 1 22 := Or.inl ⟨1, by decide +kernel⟩
theorem d10_append_22 : jd cX10_append 22 (.ldc 28) 2 24 := by decide +kernel
theorem d10_append_24 : jd cX10_append 24 (.lconst 0) 1 25 := by decide +kernel
theorem d10_append_25 : jd cX10_append 25 (.lconst 0) 1 26 := by decide +kernel
theorem d10_append_26 : jd cX10_append 26 (.invokevirtual 37) 3 29 := by decide +kernel
theorem d10_append_29 : jdb cX10_append 29 (.goto 21) 21 50 32 := by decide +kernel
theorem d10_append_32 : jda cX10_append 32 0 33 := Or.inl ⟨0, by decide +kernel⟩
theorem d10_append_33 : jdi cX10_append 33 1 34 := Or.inl ⟨1, by decide +kernel⟩
theorem d10_append_34 : jdi cX10_append 34 3 35 := Or.inl ⟨3, by decide +kernel⟩
theorem d10_append_35 : jda cX10_append 35 0 36 := Or.inl ⟨0, by decide +kernel⟩
theorem d10_append_36 : jdi cX10_append 36 1 37 := Or.inl ⟨1, by decide +kernel⟩
theorem d10_append_37 : jdi cX10_append 37 2 38 := Or.inl ⟨2, by decide +kernel⟩
theorem d10_append_38 : jd cX10_append 38 (.invokevirtual 43) 3 41 := by decide +kernel
theorem d10_append_41 : jda cX10_append 41 0 42 := Or.inl ⟨0, by decide +kernel⟩
theorem d10_append_42 : jdi cX10_append 42 1 43 := Or.inl ⟨1, by decide +kernel⟩
theorem d10_append_43 : jdi cX10_append 43 2 44 := Or.inl ⟨2, by decide +kernel⟩
theorem d10_append_44 : jd cX10_append 44 (.invokevirtual 47) 3 47 := by decide +kernel
theorem d10_append_47 : jd cX10_append 47 (.invokevirtual 37) 3 50 := by decide +kernel
theorem d10_append_50 : decode cX10_append 50 = .ok (.return_, 1) := by decide +kernel
set_option maxHeartbeats 4000000 in
set_option maxRecDepth 100000 in
theorem kX10_append (l : Launch) (D : va_G) (tc : jTC) (n : Nat) (h_ h_costs h_highs h_lows : Nat) (c_costs : (Nat → Int32)) (c_highs : (Nat → Int64)) (c_lows : (Nat → Int64)) (p1 : Int32) (p2 : Int32) : ctV l D tc yX10_append (Cond.code yX10_append cX10_append 4 none :: jtb) ({ frames := 1, cells := 0, slots := 0, locals := 26 } : Room) [.ref h_, .int p1, .int p2] [(h_, .inr (10, [.ref h_costs, .ref h_highs, .ref h_lows])), (h_costs, .inl (tc.1, n, .inl c_costs)), (h_highs, .inl (tc.2.1, n, .inr (.inl c_highs))), (h_lows, .inl (tc.2.1, n, .inr (.inl c_lows)))] (fX10_append n c_costs c_highs c_lows p1 p2) (fun (u : (Nat → Int32) × (Nat → Int64) × (Nat → Int64)) => [(h_, .inr (10, [.ref h_costs, .ref h_highs, .ref h_lows])), (h_costs, .inl (tc.1, n, .inl u.1)), (h_highs, .inl (tc.2.1, n, .inr (.inl u.2.1))), (h_lows, .inl (tc.2.1, n, .inr (.inl u.2.2)))]) := by
  refine ctV_of (lv0 := [(0, .ref h_), (1, .int p1), (2, .int p2)]) (by decide +kernel) (Nat.le_of_ble_eq_true rfl) rfl (fun X C => ?_)
  unfold fX10_append
  refine j_aload C d10_append_0 0 rfl ?_
  refine j_get C d10_append_1 fl10_17 0 rfl rfl ?_
  refine j_iload C d10_append_4 1 rfl ?_
  refine j_iald C d10_append_5 1 rfl (fun x1 => ?_)
  refine j_aload C d10_append_6 0 rfl ?_
  refine j_get C d10_append_7 fl10_17 0 rfl rfl ?_
  refine j_iload C d10_append_10 2 rfl ?_
  refine j_iald C d10_append_11 1 rfl (fun x2 => ?_)
  refine j_iadd C d10_append_12 ?_
  refine j_leti (fun x3 => ?_)
  refine j_istore C d10_append_13 (by decide) (lv' := [(3, .int x3), (0, .ref h_), (1, .int p1), (2, .int p2)]) rfl ?_
  refine j_iload C d10_append_14 0 rfl ?_
  refine j_ldc C d10_append_15 kc10_28 ?_
  refine j_join3 50 (fun v4 v5 v6 => [(h_, .inr (10, [.ref h_costs, .ref h_highs, .ref h_lows])), (h_costs, .inl (tc.1, n, .inl v4)), (h_highs, .inl (tc.2.1, n, .inr (.inl v5))), (h_lows, .inl (tc.2.1, n, .inr (.inl v6)))]) (fun v4 v5 v6 => []) (fun v4 v5 v6 => []) (fun v4 v5 v6 => ?_) (fun k7 hk7 => ?_)
  · exact j_vret C d10_append_50 rfl
  · refine j_icmp_lt C d10_append_17 ?_ ?_
    · refine j_aload C d10_append_32 1 rfl ?_
      refine j_iload C d10_append_33 2 rfl ?_
      refine j_iload C d10_append_34 0 rfl ?_
      refine j_aload C d10_append_35 1 rfl ?_
      refine j_iload C d10_append_36 2 rfl ?_
      refine j_iload C d10_append_37 3 rfl ?_
      refine j_callVL0 (As := [.int p1, .int p2]) C d10_append_38 mv10_43 (kX10_joinedHigh _ _ tc n h_ h_costs h_highs h_lows c_costs c_highs c_lows p1 p2) ⟨rfl, rfl, Nat.le_of_ble_eq_true rfl, Nat.le_of_ble_eq_true rfl⟩ rfl 0 rfl [0, 1, 2, 3] rfl rfl rfl (Nat.le_of_ble_eq_true rfl) (fun x8 => ?_)
      refine j_aload C d10_append_41 1 rfl ?_
      refine j_iload C d10_append_42 2 rfl ?_
      refine j_iload C d10_append_43 3 rfl ?_
      refine j_callVL0 (As := [.int p1, .int p2]) C d10_append_44 mv10_47 (kX10_joinedLow _ _ tc n h_ h_costs h_lows (.ref h_highs) c_costs c_lows p1 p2) ⟨rfl, rfl, Nat.le_of_ble_eq_true rfl, Nat.le_of_ble_eq_true rfl⟩ rfl 0 rfl [0, 1, 3] rfl rfl rfl (Nat.le_of_ble_eq_true rfl) (fun x9 => ?_)
      refine j_callVV3 (As := [.int p1, .int x3, .long x8, .long x9]) C d10_append_47 mv10_37 (kX10_put _ _ tc n h_ h_costs h_highs h_lows c_costs c_highs c_lows p1 x3 x8 x9) ⟨rfl, rfl, Nat.le_of_ble_eq_true rfl, Nat.le_of_ble_eq_true rfl⟩ rfl 0 rfl [0, 1, 2, 3] rfl rfl rfl (Nat.le_of_ble_eq_true rfl) (fun o10 o11 o12 => [(h_, .inr (10, [.ref h_costs, .ref h_highs, .ref h_lows])), (h_costs, .inl (tc.1, n, .inl o10)), (h_highs, .inl (tc.2.1, n, .inr (.inl o11))), (h_lows, .inl (tc.2.1, n, .inr (.inl o12)))]) [(true, 0), (true, 1), (true, 2), (true, 3)] (fun _ => rfl) (by decide +kernel) (fun o10 o11 o12 => ?_)
      exact j_sub [] rfl (hk7 _ _ _)
    · refine j_aload C d10_append_20 1 rfl ?_
      refine j_iload C d10_append_21 2 rfl ?_
      refine j_ldc C d10_append_22 kc10_28 ?_
      refine j_lconst C d10_append_24 (by decide +kernel) ?_ (v := 0)
      refine j_lconst C d10_append_25 (by decide +kernel) ?_ (v := 0)
      refine j_callVV3 (As := [.int p1, .int 41984, .long 0, .long 0]) C d10_append_26 mv10_37 (kX10_put _ _ tc n h_ h_costs h_highs h_lows c_costs c_highs c_lows p1 41984 0 0) ⟨rfl, rfl, Nat.le_of_ble_eq_true rfl, Nat.le_of_ble_eq_true rfl⟩ rfl 0 rfl [0, 1, 2, 3] rfl rfl rfl (Nat.le_of_ble_eq_true rfl) (fun o13 o14 o15 => [(h_, .inr (10, [.ref h_costs, .ref h_highs, .ref h_lows])), (h_costs, .inl (tc.1, n, .inl o13)), (h_highs, .inl (tc.2.1, n, .inr (.inl o14))), (h_lows, .inl (tc.2.1, n, .inr (.inl o15)))]) [(true, 0), (true, 1), (true, 2), (true, 3)] (fun _ => rfl) (by decide +kernel) (fun o13 o14 o15 => ?_)
      refine j_goto C d10_append_29 ?_
      exact j_sub [] rfl (hk7 _ _ _)

theorem d0_putPlainTails_0 : jda cX0_putPlainTails 0 0 1 := Or.inl ⟨0, by decide +kernel⟩
theorem d0_putPlainTails_1 : jd cX0_putPlainTails 1 (.getfield 24) 3 4 := by decide +kernel
theorem d0_putPlainTails_4 : jd cX0_putPlainTails 4 (.getfield 47) 3 7 := by decide +kernel
theorem d0_putPlainTails_7 : jdi cX0_putPlainTails 7 1 8 := Or.inl ⟨1, by decide +kernel⟩
theorem d0_putPlainTails_8 : jd cX0_putPlainTails 8 (.iaload) 1 9 := by decide +kernel
theorem d0_putPlainTails_9 : jds cX0_putPlainTails 9 2 10 := Or.inl ⟨2, by decide +kernel⟩
theorem d0_putPlainTails_10 : jdi cX0_putPlainTails 10 2 11 := Or.inl ⟨2, by decide +kernel⟩
theorem d0_putPlainTails_11 : jd cX0_putPlainTails 11 (.invokestatic 82) 3 14 := by decide +kernel
theorem d0_putPlainTails_14 : jds cX0_putPlainTails 14 3 15 := Or.inl ⟨3, by decide +kernel⟩
theorem d0_putPlainTails_15 : jda cX0_putPlainTails 15 0 16 := Or.inl ⟨0, by decide +kernel⟩
theorem d0_putPlainTails_16 : jd cX0_putPlainTails 16 (.getfield 16) 3 19 := by decide +kernel
theorem d0_putPlainTails_19 : jdi cX0_putPlainTails 19 1 20 := Or.inl ⟨1, by decide +kernel⟩
theorem d0_putPlainTails_20 : jdi cX0_putPlainTails 20 3 21 := Or.inl ⟨3, by decide +kernel⟩
theorem d0_putPlainTails_21 : jd cX0_putPlainTails 21 (.invokestatic 74) 3 24 := by decide +kernel
theorem d0_putPlainTails_24 : jd cX0_putPlainTails 24 (.invokevirtual 85) 3 27 := by decide +kernel
theorem d0_putPlainTails_27 : jdi cX0_putPlainTails 27 3 28 := Or.inl ⟨3, by decide +kernel⟩
theorem d0_putPlainTails_28 : jdk cX0_putPlainTails 28 1 29 := Or.inl ⟨1, by decide +kernel⟩
theorem d0_putPlainTails_29 : jd cX0_putPlainTails 29 (.isub) 1 30 := by decide +kernel
theorem d0_putPlainTails_30 : jds cX0_putPlainTails 30 4 32 := Or.inr (by decide +kernel)
theorem d0_putPlainTails_32 : jdi cX0_putPlainTails 32 4 34 := Or.inr (by decide +kernel)
theorem d0_putPlainTails_34 : jdb cX0_putPlainTails 34 (.ifCond .lt 51) 51 85 37 := by decide +kernel
theorem d0_putPlainTails_37 : jda cX0_putPlainTails 37 0 38 := Or.inl ⟨0, by decide +kernel⟩
theorem d0_putPlainTails_38 : jd cX0_putPlainTails 38 (.getfield 16) 3 41 := by decide +kernel
theorem d0_putPlainTails_41 : jdi cX0_putPlainTails 41 1 42 := Or.inl ⟨1, by decide +kernel⟩
theorem d0_putPlainTails_42 : jdi cX0_putPlainTails 42 4 44 := Or.inr (by decide +kernel)
theorem d0_putPlainTails_44 : jd cX0_putPlainTails 44 (.invokestatic 74) 3 47 := by decide +kernel
theorem d0_putPlainTails_47 : jdk cX0_putPlainTails 47 0 48 := Or.inl ⟨0, by decide +kernel⟩
theorem d0_putPlainTails_48 : jdi cX0_putPlainTails 48 2 49 := Or.inl ⟨2, by decide +kernel⟩
theorem d0_putPlainTails_49 : jdi cX0_putPlainTails 49 4 51 := Or.inr (by decide +kernel)
theorem d0_putPlainTails_51 : jd cX0_putPlainTails 51 (.invokestatic 88) 3 54 := by decide +kernel
theorem d0_putPlainTails_54 : jd cX0_putPlainTails 54 (.iadd) 1 55 := by decide +kernel
theorem d0_putPlainTails_55 : jd cX0_putPlainTails 55 (.invokevirtual 91) 3 58 := by decide +kernel
theorem d0_putPlainTails_58 : jda cX0_putPlainTails 58 0 59 := Or.inl ⟨0, by decide +kernel⟩
theorem d0_putPlainTails_59 : jd cX0_putPlainTails 59 (.getfield 16) 3 62 := by decide +kernel
theorem d0_putPlainTails_62 : jdi cX0_putPlainTails 62 1 63 := Or.inl ⟨1, by decide +kernel⟩
theorem d0_putPlainTails_63 : jdi cX0_putPlainTails 63 4 65 := Or.inr (by decide +kernel)
theorem d0_putPlainTails_65 : jd cX0_putPlainTails 65 (.invokestatic 74) 3 68 := by decide +kernel
theorem d0_putPlainTails_68 : jdi cX0_putPlainTails 68 1 69 := Or.inl ⟨1, by decide +kernel⟩
theorem d0_putPlainTails_69 : jdi cX0_putPlainTails 69 4 71 := Or.inr (by decide +kernel)
theorem d0_putPlainTails_71 : jdk cX0_putPlainTails 71 1 72 := Or.inl ⟨1, by decide +kernel⟩
theorem d0_putPlainTails_72 : jd cX0_putPlainTails 72 (.iadd) 1 73 := by decide +kernel
theorem d0_putPlainTails_73 : jd cX0_putPlainTails 73 (.invokestatic 74) 3 76 := by decide +kernel
theorem d0_putPlainTails_76 : jd cX0_putPlainTails 76 (.invokevirtual 95) 3 79 := by decide +kernel
theorem d0_putPlainTails_79 : jd cX0_putPlainTails 79 (.iinc 4 (-1)) 3 82 := by decide +kernel
theorem d0_putPlainTails_82 : jdb cX0_putPlainTails 82 (.goto (-50)) (-50) 32 85 := by decide +kernel
theorem d0_putPlainTails_85 : decode cX0_putPlainTails 85 = .ok (.return_, 1) := by decide +kernel
set_option maxHeartbeats 4000000 in
set_option maxRecDepth 100000 in
theorem wX0_putPlainTails_32 {X : jC} {tc : jTC} (C : jx X cX0_putPlainTails 5 RX0 none tc ({ frames := 2, cells := 0, slots := 0, locals := 49 } : Room)) (h_ h_rules h_rules_codes h_words h_words_costs h_words_highs h_words_lows : Nat) (g_plainKnown g_exampleKey g_rules_count : Value) (p1 : Int32) (c_rules_codes : (Nat → Int32)) (x1 : Int32) (k11 : ((Nat → Int32) → (Nat → Int64) → (Nat → Int64) → Option ((Nat → Int32) × (Nat → Int64) × (Nat → Int64)))) (hk11 : ∀ (v28 : (Nat → Int32)) (v29 : (Nat → Int64)) (v30 : (Nat → Int64)), jo X 5 (0, 0) (jQV X (fun (u : (Nat → Int32) × (Nat → Int64) × (Nat → Int64)) => [(h_, .inr (0, [.ref h_rules, .ref h_words, g_plainKnown, g_exampleKey])), (h_rules, .inr (6, [.ref h_rules_codes, g_rules_count])), (h_rules_codes, .inl (tc.1, 24, .inl c_rules_codes)), (h_words, .inr (10, [.ref h_words_costs, .ref h_words_highs, .ref h_words_lows])), (h_words_costs, .inl (tc.1, 362, .inl u.1)), (h_words_highs, .inl (tc.2.1, 362, .inr (.inl u.2.1))), (h_words_lows, .inl (tc.2.1, 362, .inr (.inl u.2.2)))])) (k11 v28 v29 v30) [(h_, .inr (0, [.ref h_rules, .ref h_words, g_plainKnown, g_exampleKey])), (h_rules, .inr (6, [.ref h_rules_codes, g_rules_count])), (h_rules_codes, .inl (tc.1, 24, .inl c_rules_codes)), (h_words, .inr (10, [.ref h_words_costs, .ref h_words_highs, .ref h_words_lows])), (h_words_costs, .inl (tc.1, 362, .inl v28)), (h_words_highs, .inl (tc.2.1, 362, .inr (.inl v29))), (h_words_lows, .inl (tc.2.1, 362, .inr (.inl v30)))] 85 [] []) (rc16 : Int32 → (Nat → Int32) → (Nat → Int64) → (Nat → Int64) → Option ((Nat → Int32) × (Nat → Int64) × (Nat → Int64))) (hrc16 : ∀ (v12 : Int32) (v13 : (Nat → Int32)) (v14 : (Nat → Int64)) (v15 : (Nat → Int64)), jo X 5 (0, 0) (jQV X (fun (u : (Nat → Int32) × (Nat → Int64) × (Nat → Int64)) => [(h_, .inr (0, [.ref h_rules, .ref h_words, g_plainKnown, g_exampleKey])), (h_rules, .inr (6, [.ref h_rules_codes, g_rules_count])), (h_rules_codes, .inl (tc.1, 24, .inl c_rules_codes)), (h_words, .inr (10, [.ref h_words_costs, .ref h_words_highs, .ref h_words_lows])), (h_words_costs, .inl (tc.1, 362, .inl u.1)), (h_words_highs, .inl (tc.2.1, 362, .inr (.inl u.2.1))), (h_words_lows, .inl (tc.2.1, 362, .inr (.inl u.2.2)))])) (rc16 v12 v13 v14 v15) [(h_, .inr (0, [.ref h_rules, .ref h_words, g_plainKnown, g_exampleKey])), (h_rules, .inr (6, [.ref h_rules_codes, g_rules_count])), (h_rules_codes, .inl (tc.1, 24, .inl c_rules_codes)), (h_words, .inr (10, [.ref h_words_costs, .ref h_words_highs, .ref h_words_lows])), (h_words_costs, .inl (tc.1, 362, .inl v13)), (h_words_highs, .inl (tc.2.1, 362, .inr (.inl v14))), (h_words_lows, .inl (tc.2.1, 362, .inr (.inl v15)))] 32 [(0, .ref h_), (1, .int p1), (2, .int x1), (4, .int v12)] []) (v12 : Int32) (v13 : (Nat → Int32)) (v14 : (Nat → Int64)) (v15 : (Nat → Int64)) : jo X 5 (0, 0) (jQV X (fun (u : (Nat → Int32) × (Nat → Int64) × (Nat → Int64)) => [(h_, .inr (0, [.ref h_rules, .ref h_words, g_plainKnown, g_exampleKey])), (h_rules, .inr (6, [.ref h_rules_codes, g_rules_count])), (h_rules_codes, .inl (tc.1, 24, .inl c_rules_codes)), (h_words, .inr (10, [.ref h_words_costs, .ref h_words_highs, .ref h_words_lows])), (h_words_costs, .inl (tc.1, 362, .inl u.1)), (h_words_highs, .inl (tc.2.1, 362, .inr (.inl u.2.1))), (h_words_lows, .inl (tc.2.1, 362, .inr (.inl u.2.2)))])) (bX0_putPlainTails_32 p1 x1 k11 rc16 v12 v13 v14 v15) [(h_, .inr (0, [.ref h_rules, .ref h_words, g_plainKnown, g_exampleKey])), (h_rules, .inr (6, [.ref h_rules_codes, g_rules_count])), (h_rules_codes, .inl (tc.1, 24, .inl c_rules_codes)), (h_words, .inr (10, [.ref h_words_costs, .ref h_words_highs, .ref h_words_lows])), (h_words_costs, .inl (tc.1, 362, .inl v13)), (h_words_highs, .inl (tc.2.1, 362, .inr (.inl v14))), (h_words_lows, .inl (tc.2.1, 362, .inr (.inl v15)))] 32 [(0, .ref h_), (1, .int p1), (2, .int x1), (4, .int v12)] [] := by
  unfold bX0_putPlainTails_32
  refine j_iload C d0_putPlainTails_32 3 rfl ?_
  refine j_if_lt C d0_putPlainTails_34 ?_ ?_
  · exact j_sub [] rfl (hk11 _ _ _)
  · refine j_aload C d0_putPlainTails_37 0 rfl ?_
    refine j_get C d0_putPlainTails_38 fl0_16 0 rfl rfl ?_
    refine j_iload C d0_putPlainTails_41 1 rfl ?_
    refine j_iload C d0_putPlainTails_42 3 rfl ?_
    refine j_callSI0 (As := [.int p1, .int v12]) C d0_putPlainTails_44 ms0_74 (kX0_plainTail _ _ tc p1 v12) ⟨rfl, rfl, Nat.le_of_ble_eq_true rfl, Nat.le_of_ble_eq_true rfl⟩ rfl [] rfl rfl rfl (Nat.le_of_ble_eq_true rfl) (fun x17 => ?_)
    refine j_const C d0_putPlainTails_47 ?_
    refine j_iload C d0_putPlainTails_48 2 rfl ?_
    refine j_iload C d0_putPlainTails_49 3 rfl ?_
    refine j_callSI0 (As := [.int x1, .int v12]) C d0_putPlainTails_51 ms0_88 (kX6_symbolOf _ _ tc x1 v12) ⟨rfl, rfl, Nat.le_of_ble_eq_true rfl, Nat.le_of_ble_eq_true rfl⟩ rfl [] rfl rfl rfl (Nat.le_of_ble_eq_true rfl) (fun x18 => ?_)
    refine j_iadd C d0_putPlainTails_54 ?_
    refine j_callVV3 (As := [.int x17, .int ((0 : Int32) + x18)]) C d0_putPlainTails_55 mv0_91 (kX10_putCopy _ _ tc 362 h_words h_words_costs h_words_highs h_words_lows v13 v14 v15 x17 ((0 : Int32) + x18)) ⟨rfl, rfl, Nat.le_of_ble_eq_true rfl, Nat.le_of_ble_eq_true rfl⟩ rfl 3 rfl [3, 4, 5, 6] rfl rfl rfl (Nat.le_of_ble_eq_true rfl) (fun o19 o20 o21 => [(h_, .inr (0, [.ref h_rules, .ref h_words, g_plainKnown, g_exampleKey])), (h_rules, .inr (6, [.ref h_rules_codes, g_rules_count])), (h_rules_codes, .inl (tc.1, 24, .inl c_rules_codes)), (h_words, .inr (10, [.ref h_words_costs, .ref h_words_highs, .ref h_words_lows])), (h_words_costs, .inl (tc.1, 362, .inl o19)), (h_words_highs, .inl (tc.2.1, 362, .inr (.inl o20))), (h_words_lows, .inl (tc.2.1, 362, .inr (.inl o21)))]) [(false, 0), (false, 1), (false, 2), (true, 0), (true, 1), (true, 2), (true, 3)] (fun _ => rfl) (by decide +kernel) (fun o19 o20 o21 => ?_)
    refine j_aload C d0_putPlainTails_58 0 rfl ?_
    refine j_get C d0_putPlainTails_59 fl0_16 0 rfl rfl ?_
    refine j_iload C d0_putPlainTails_62 1 rfl ?_
    refine j_iload C d0_putPlainTails_63 3 rfl ?_
    refine j_callSI0 (As := [.int p1, .int v12]) C d0_putPlainTails_65 ms0_74 (kX0_plainTail _ _ tc p1 v12) ⟨rfl, rfl, Nat.le_of_ble_eq_true rfl, Nat.le_of_ble_eq_true rfl⟩ rfl [] rfl rfl rfl (Nat.le_of_ble_eq_true rfl) (fun x22 => ?_)
    refine j_iload C d0_putPlainTails_68 1 rfl ?_
    refine j_iload C d0_putPlainTails_69 3 rfl ?_
    refine j_const C d0_putPlainTails_71 ?_
    refine j_iadd C d0_putPlainTails_72 ?_
    refine j_callSI0 (As := [.int p1, .int (v12 + (1 : Int32))]) C d0_putPlainTails_73 ms0_74 (kX0_plainTail _ _ tc p1 (v12 + (1 : Int32))) ⟨rfl, rfl, Nat.le_of_ble_eq_true rfl, Nat.le_of_ble_eq_true rfl⟩ rfl [] rfl rfl rfl (Nat.le_of_ble_eq_true rfl) (fun x23 => ?_)
    refine j_callVV3 (As := [.int x22, .int x23]) C d0_putPlainTails_76 mv0_95 (kX10_append _ _ tc 362 h_words h_words_costs h_words_highs h_words_lows o19 o20 o21 x22 x23) ⟨rfl, rfl, Nat.le_of_ble_eq_true rfl, Nat.le_of_ble_eq_true rfl⟩ rfl 3 rfl [3, 4, 5, 6] rfl rfl rfl (Nat.le_of_ble_eq_true rfl) (fun o24 o25 o26 => [(h_, .inr (0, [.ref h_rules, .ref h_words, g_plainKnown, g_exampleKey])), (h_rules, .inr (6, [.ref h_rules_codes, g_rules_count])), (h_rules_codes, .inl (tc.1, 24, .inl c_rules_codes)), (h_words, .inr (10, [.ref h_words_costs, .ref h_words_highs, .ref h_words_lows])), (h_words_costs, .inl (tc.1, 362, .inl o24)), (h_words_highs, .inl (tc.2.1, 362, .inr (.inl o25))), (h_words_lows, .inl (tc.2.1, 362, .inr (.inl o26)))]) [(false, 0), (false, 1), (false, 2), (true, 0), (true, 1), (true, 2), (true, 3)] (fun _ => rfl) (by decide +kernel) (fun o24 o25 o26 => ?_)
    refine j_iincN C (fun x27 => [(4, .int x27), (0, .ref h_), (1, .int p1), (2, .int x1)]) d0_putPlainTails_79 3 rfl (by decide +kernel) (by decide) (fun _ => rfl) (fun x27 => ?_)
    refine j_goto C d0_putPlainTails_82 ?_
    exact j_sub [1, 2, 3, 0] rfl (hrc16 _ _ _ _)

set_option maxHeartbeats 4000000 in
set_option maxRecDepth 100000 in
theorem kX0_putPlainTails (l : Launch) (D : va_G) (tc : jTC) (N : Nat) (h_ h_rules h_rules_codes h_words h_words_costs h_words_highs h_words_lows : Nat) (g_plainKnown g_exampleKey g_rules_count : Value) (c_rules_codes : (Nat → Int32)) (c_words_costs : (Nat → Int32)) (c_words_highs : (Nat → Int64)) (c_words_lows : (Nat → Int64)) (p1 : Int32) : ctV l D tc yX0_putPlainTails (Cond.code yX0_putPlainTails cX0_putPlainTails 5 none :: jtb) ({ frames := 2, cells := 0, slots := 0, locals := 49 } : Room) [.ref h_, .int p1] [(h_, .inr (0, [.ref h_rules, .ref h_words, g_plainKnown, g_exampleKey])), (h_rules, .inr (6, [.ref h_rules_codes, g_rules_count])), (h_rules_codes, .inl (tc.1, 24, .inl c_rules_codes)), (h_words, .inr (10, [.ref h_words_costs, .ref h_words_highs, .ref h_words_lows])), (h_words_costs, .inl (tc.1, 362, .inl c_words_costs)), (h_words_highs, .inl (tc.2.1, 362, .inr (.inl c_words_highs))), (h_words_lows, .inl (tc.2.1, 362, .inr (.inl c_words_lows)))] (fX0_putPlainTails N c_rules_codes c_words_costs c_words_highs c_words_lows p1) (fun (u : (Nat → Int32) × (Nat → Int64) × (Nat → Int64)) => [(h_, .inr (0, [.ref h_rules, .ref h_words, g_plainKnown, g_exampleKey])), (h_rules, .inr (6, [.ref h_rules_codes, g_rules_count])), (h_rules_codes, .inl (tc.1, 24, .inl c_rules_codes)), (h_words, .inr (10, [.ref h_words_costs, .ref h_words_highs, .ref h_words_lows])), (h_words_costs, .inl (tc.1, 362, .inl u.1)), (h_words_highs, .inl (tc.2.1, 362, .inr (.inl u.2.1))), (h_words_lows, .inl (tc.2.1, 362, .inr (.inl u.2.2)))]) := by
  refine ctV_of (lv0 := [(0, .ref h_), (1, .int p1)]) (by decide +kernel) (Nat.le_of_ble_eq_true rfl) rfl (fun X C => ?_)
  unfold fX0_putPlainTails
  refine j_aload C d0_putPlainTails_0 0 rfl ?_
  refine j_get C d0_putPlainTails_1 fl0_24 0 rfl rfl ?_
  refine j_get C d0_putPlainTails_4 fl0_47 1 rfl rfl ?_
  refine j_iload C d0_putPlainTails_7 1 rfl ?_
  refine j_iald C d0_putPlainTails_8 2 rfl (fun x1 => ?_)
  refine j_istore C d0_putPlainTails_9 (by decide) (lv' := [(2, .int x1), (0, .ref h_), (1, .int p1)]) rfl ?_
  refine j_iload C d0_putPlainTails_10 0 rfl ?_
  refine j_callSI0 (As := [.int x1]) C d0_putPlainTails_11 ms0_82 (kX6_lengthOf _ _ tc x1) ⟨rfl, rfl, Nat.le_of_ble_eq_true rfl, Nat.le_of_ble_eq_true rfl⟩ rfl [] rfl rfl rfl (Nat.le_of_ble_eq_true rfl) (fun x2 => ?_)
  refine j_istore C d0_putPlainTails_14 (by decide) (lv' := [(3, .int x2), (2, .int x1), (0, .ref h_), (1, .int p1)]) rfl ?_
  refine j_aload C d0_putPlainTails_15 2 rfl ?_
  refine j_get C d0_putPlainTails_16 fl0_16 0 rfl rfl ?_
  refine j_iload C d0_putPlainTails_19 3 rfl ?_
  refine j_iload C d0_putPlainTails_20 0 rfl ?_
  refine j_callSI0 (As := [.int p1, .int x2]) C d0_putPlainTails_21 ms0_74 (kX0_plainTail _ _ tc p1 x2) ⟨rfl, rfl, Nat.le_of_ble_eq_true rfl, Nat.le_of_ble_eq_true rfl⟩ rfl [] rfl rfl rfl (Nat.le_of_ble_eq_true rfl) (fun x3 => ?_)
  refine j_callVV3 (As := [.int x3]) C d0_putPlainTails_24 mv0_85 (kX10_putEmpty _ _ tc 362 h_words h_words_costs h_words_highs h_words_lows c_words_costs c_words_highs c_words_lows x3) ⟨rfl, rfl, Nat.le_of_ble_eq_true rfl, Nat.le_of_ble_eq_true rfl⟩ rfl 3 rfl [3, 4, 5, 6] rfl rfl rfl (Nat.le_of_ble_eq_true rfl) (fun o4 o5 o6 => [(h_, .inr (0, [.ref h_rules, .ref h_words, g_plainKnown, g_exampleKey])), (h_rules, .inr (6, [.ref h_rules_codes, g_rules_count])), (h_rules_codes, .inl (tc.1, 24, .inl c_rules_codes)), (h_words, .inr (10, [.ref h_words_costs, .ref h_words_highs, .ref h_words_lows])), (h_words_costs, .inl (tc.1, 362, .inl o4)), (h_words_highs, .inl (tc.2.1, 362, .inr (.inl o5))), (h_words_lows, .inl (tc.2.1, 362, .inr (.inl o6)))]) [(false, 0), (false, 1), (false, 2), (true, 0), (true, 1), (true, 2), (true, 3)] (fun _ => rfl) (by decide +kernel) (fun o4 o5 o6 => ?_)
  refine j_iload C d0_putPlainTails_27 0 rfl ?_
  refine j_const C d0_putPlainTails_28 ?_
  refine j_isub C d0_putPlainTails_29 ?_
  refine j_leti (fun x7 => ?_)
  refine j_istore C d0_putPlainTails_30 (by decide) (lv' := [(4, .int x7), (3, .int x2), (2, .int x1), (0, .ref h_), (1, .int p1)]) rfl ?_
  refine j_join3 85 (fun v8 v9 v10 => [(h_, .inr (0, [.ref h_rules, .ref h_words, g_plainKnown, g_exampleKey])), (h_rules, .inr (6, [.ref h_rules_codes, g_rules_count])), (h_rules_codes, .inl (tc.1, 24, .inl c_rules_codes)), (h_words, .inr (10, [.ref h_words_costs, .ref h_words_highs, .ref h_words_lows])), (h_words_costs, .inl (tc.1, 362, .inl v8)), (h_words_highs, .inl (tc.2.1, 362, .inr (.inl v9))), (h_words_lows, .inl (tc.2.1, 362, .inr (.inl v10)))]) (fun v8 v9 v10 => []) (fun v8 v9 v10 => []) (fun v8 v9 v10 => ?_) (fun k11 hk11 => ?_)
  · exact j_vret C d0_putPlainTails_85 rfl
  · exact j_sub [3, 4, 2, 0] rfl (j_loop4 (fun v12 v13 v14 v15 => [(h_, .inr (0, [.ref h_rules, .ref h_words, g_plainKnown, g_exampleKey])), (h_rules, .inr (6, [.ref h_rules_codes, g_rules_count])), (h_rules_codes, .inl (tc.1, 24, .inl c_rules_codes)), (h_words, .inr (10, [.ref h_words_costs, .ref h_words_highs, .ref h_words_lows])), (h_words_costs, .inl (tc.1, 362, .inl v13)), (h_words_highs, .inl (tc.2.1, 362, .inr (.inl v14))), (h_words_lows, .inl (tc.2.1, 362, .inr (.inl v15)))]) (fun v12 v13 v14 v15 => [(0, .ref h_), (1, .int p1), (2, .int x1), (4, .int v12)]) (fun rc16 hrc16 v12 v13 v14 v15 => wX0_putPlainTails_32 C h_ h_rules h_rules_codes h_words h_words_costs h_words_highs h_words_lows g_plainKnown g_exampleKey g_rules_count p1 c_rules_codes x1 k11 hk11 rc16 hrc16 v12 v13 v14 v15) N _ _ _ _)

theorem d6_leftOf_0 : jdi cX6_leftOf 0 0 1 := Or.inl ⟨0, by decide +kernel⟩
theorem d6_leftOf_1 : jdk cX6_leftOf 1 7 3 := Or.inr (Or.inl ⟨7, by decide +kernel⟩)
theorem d6_leftOf_3 : jd cX6_leftOf 3 (.iand) 1 4 := by decide +kernel
theorem d6_leftOf_4 : decode cX6_leftOf 4 = .ok (.ireturn, 1) := by decide +kernel
set_option maxHeartbeats 4000000 in
set_option maxRecDepth 100000 in
theorem kX6_leftOf (l : Launch) (D : va_G) (tc : jTC) (p0 : Int32) : ctI0 l D tc yX6_leftOf (Cond.code yX6_leftOf cX6_leftOf 1 (some .int) :: jtb) ({ frames := 0, cells := 0, slots := 0, locals := 0 } : Room) [.int p0] [] (fX6_leftOf p0) := by
  refine ctI0_of (lv0 := [(0, .int p0)]) (by decide +kernel) (Nat.le_of_ble_eq_true rfl) rfl (fun X C => ?_)
  unfold fX6_leftOf
  refine j_iload C d6_leftOf_0 0 rfl ?_
  refine j_const C d6_leftOf_1 ?_
  refine j_iand C d6_leftOf_3 ?_
  exact j_iret0 C d6_leftOf_4

theorem d0_leftSymbol_0 : jdk cX0_leftSymbol 0 10 2 := Or.inr (Or.inl ⟨10, by decide +kernel⟩)
theorem d0_leftSymbol_2 : jda cX0_leftSymbol 2 0 3 := Or.inl ⟨0, by decide +kernel⟩
theorem d0_leftSymbol_3 : jd cX0_leftSymbol 3 (.getfield 24) 3 6 := by decide +kernel
theorem d0_leftSymbol_6 : jd cX0_leftSymbol 6 (.getfield 47) 3 9 := by decide +kernel
theorem d0_leftSymbol_9 : jdi cX0_leftSymbol 9 1 10 := Or.inl ⟨1, by decide +kernel⟩
theorem d0_leftSymbol_10 : jd cX0_leftSymbol 10 (.iaload) 1 11 := by decide +kernel
theorem d0_leftSymbol_11 : jd cX0_leftSymbol 11 (.invokestatic 51) 3 14 := by decide +kernel
theorem d0_leftSymbol_14 : jd cX0_leftSymbol 14 (.iadd) 1 15 := by decide +kernel
theorem d0_leftSymbol_15 : decode cX0_leftSymbol 15 = .ok (.ireturn, 1) := by decide +kernel
set_option maxHeartbeats 4000000 in
set_option maxRecDepth 100000 in
theorem kX0_leftSymbol (l : Launch) (D : va_G) (tc : jTC) (h_ h_rules h_rules_codes : Nat) (g_words g_plainKnown g_exampleKey g_rules_count : Value) (c_rules_codes : (Nat → Int32)) (p1 : Int32) : ctI0 l D tc yX0_leftSymbol (Cond.code yX0_leftSymbol cX0_leftSymbol 2 (some .int) :: jtb) ({ frames := 1, cells := 0, slots := 0, locals := 20 } : Room) [.ref h_, .int p1] [(h_, .inr (0, [.ref h_rules, g_words, g_plainKnown, g_exampleKey])), (h_rules, .inr (6, [.ref h_rules_codes, g_rules_count])), (h_rules_codes, .inl (tc.1, 24, .inl c_rules_codes))] (fX0_leftSymbol c_rules_codes p1) := by
  refine ctI0_of (lv0 := [(0, .ref h_), (1, .int p1)]) (by decide +kernel) (Nat.le_of_ble_eq_true rfl) rfl (fun X C => ?_)
  unfold fX0_leftSymbol
  refine j_const C d0_leftSymbol_0 ?_
  refine j_aload C d0_leftSymbol_2 0 rfl ?_
  refine j_get C d0_leftSymbol_3 fl0_24 0 rfl rfl ?_
  refine j_get C d0_leftSymbol_6 fl0_47 1 rfl rfl ?_
  refine j_iload C d0_leftSymbol_9 1 rfl ?_
  refine j_iald C d0_leftSymbol_10 2 rfl (fun x1 => ?_)
  refine j_callSI0 (As := [.int x1]) C d0_leftSymbol_11 ms0_51 (kX6_leftOf _ _ tc x1) ⟨rfl, rfl, Nat.le_of_ble_eq_true rfl, Nat.le_of_ble_eq_true rfl⟩ rfl [] rfl rfl rfl (Nat.le_of_ble_eq_true rfl) (fun x2 => ?_)
  refine j_iadd C d0_leftSymbol_14 ?_
  exact j_iret0 C d0_leftSymbol_15

theorem d10_isLess_0 : jdi cX10_isLess 0 2 1 := Or.inl ⟨2, by decide +kernel⟩
theorem d10_isLess_1 : jda cX10_isLess 1 0 2 := Or.inl ⟨0, by decide +kernel⟩
theorem d10_isLess_2 : jd cX10_isLess 2 (.getfield 17) 3 5 := by decide +kernel
theorem d10_isLess_5 : jdi cX10_isLess 5 1 6 := Or.inl ⟨1, by decide +kernel⟩
theorem d10_isLess_6 : jd cX10_isLess 6 (.iaload) 1 7 := by decide +kernel
theorem d10_isLess_7 : jdb cX10_isLess 7 (.if_icmp .eq 19) 19 26 10 := by decide +kernel
theorem d10_isLess_10 : jdi cX10_isLess 10 2 11 := Or.inl ⟨2, by decide +kernel⟩
theorem d10_isLess_11 : jda cX10_isLess 11 0 12 := Or.inl ⟨0, by decide +kernel⟩
theorem d10_isLess_12 : jd cX10_isLess 12 (.getfield 17) 3 15 := by decide +kernel
theorem d10_isLess_15 : jdi cX10_isLess 15 1 16 := Or.inl ⟨1, by decide +kernel⟩
theorem d10_isLess_16 : jd cX10_isLess 16 (.iaload) 1 17 := by decide +kernel
theorem d10_isLess_17 : jdb cX10_isLess 17 (.if_icmp .ge 7) 7 24 20 := by decide +kernel
theorem d10_isLess_20 : jdk cX10_isLess 20 1 21 := Or.inl ⟨1, by decide +kernel⟩
theorem d10_isLess_21 : jdb cX10_isLess 21 (.goto 4) 4 25 24 := by decide +kernel
theorem d10_isLess_24 : jdk cX10_isLess 24 0 25 := Or.inl ⟨0, by decide +kernel⟩
theorem d10_isLess_25 : decode cX10_isLess 25 = .ok (.ireturn, 1) := by decide +kernel
theorem d10_isLess_26 : jdl cX10_isLess 26 3 27 := Or.inl ⟨3, by decide +kernel⟩
theorem d10_isLess_27 : jda cX10_isLess 27 0 28 := Or.inl ⟨0, by decide +kernel⟩
theorem d10_isLess_28 : jd cX10_isLess 28 (.getfield 21) 3 31 := by decide +kernel
theorem d10_isLess_31 : jdi cX10_isLess 31 1 32 := Or.inl ⟨1, by decide +kernel⟩
theorem d10_isLess_32 : jd cX10_isLess 32 (.laload) 1 33 := by decide +kernel
theorem d10_isLess_33 : jd cX10_isLess 33 (.lcmp) 1 34 := by decide +kernel
theorem d10_isLess_34 : jdb cX10_isLess 34 (.ifCond .eq 20) 20 54 37 := by decide +kernel
theorem d10_isLess_37 : jdl cX10_isLess 37 3 38 := Or.inl ⟨3, by decide +kernel⟩
theorem d10_isLess_38 : jda cX10_isLess 38 0 39 := Or.inl ⟨0, by decide +kernel⟩
theorem d10_isLess_39 : jd cX10_isLess 39 (.getfield 21) 3 42 := by decide +kernel
theorem d10_isLess_42 : jdi cX10_isLess 42 1 43 := Or.inl ⟨1, by decide +kernel⟩
theorem d10_isLess_43 : jd cX10_isLess 43 (.laload) 1 44 := by decide +kernel
theorem d10_isLess_44 : jd cX10_isLess 44 (.lcmp) 1 45 := by decide +kernel
theorem d10_isLess_45 : jdb cX10_isLess 45 (.ifCond .ge 7) 7 52 48 := by decide +kernel
theorem d10_isLess_48 : jdk cX10_isLess 48 1 49 := Or.inl ⟨1, by decide +kernel⟩
theorem d10_isLess_49 : jdb cX10_isLess 49 (.goto 4) 4 53 52 := by decide +kernel
theorem d10_isLess_52 : jdk cX10_isLess 52 0 53 := Or.inl ⟨0, by decide +kernel⟩
theorem d10_isLess_53 : decode cX10_isLess 53 = .ok (.ireturn, 1) := by decide +kernel
theorem d10_isLess_54 : jdl cX10_isLess 54 5 56 := Or.inr (by decide +kernel)
theorem d10_isLess_56 : jda cX10_isLess 56 0 57 := Or.inl ⟨0, by decide +kernel⟩
theorem d10_isLess_57 : jd cX10_isLess 57 (.getfield 25) 3 60 := by decide +kernel
theorem d10_isLess_60 : jdi cX10_isLess 60 1 61 := Or.inl ⟨1, by decide +kernel⟩
theorem d10_isLess_61 : jd cX10_isLess 61 (.laload) 1 62 := by decide +kernel
theorem d10_isLess_62 : jd cX10_isLess 62 (.lcmp) 1 63 := by decide +kernel
theorem d10_isLess_63 : jdb cX10_isLess 63 (.ifCond .ge 7) 7 70 66 := by decide +kernel
theorem d10_isLess_66 : jdk cX10_isLess 66 1 67 := Or.inl ⟨1, by decide +kernel⟩
theorem d10_isLess_67 : jdb cX10_isLess 67 (.goto 4) 4 71 70 := by decide +kernel
theorem d10_isLess_70 : jdk cX10_isLess 70 0 71 := Or.inl ⟨0, by decide +kernel⟩
theorem d10_isLess_71 : decode cX10_isLess 71 = .ok (.ireturn, 1) := by decide +kernel
set_option maxHeartbeats 4000000 in
set_option maxRecDepth 100000 in
theorem kX10_isLess (l : Launch) (D : va_G) (tc : jTC) (n : Nat) (h_ h_costs h_highs h_lows : Nat) (c_costs : (Nat → Int32)) (c_highs : (Nat → Int64)) (c_lows : (Nat → Int64)) (p1 : Int32) (p2 : Int32) (p3 : Int64) (p5 : Int64) : ctI0 l D tc yX10_isLess (Cond.code yX10_isLess cX10_isLess 7 (some .boolean) :: jtb) ({ frames := 0, cells := 0, slots := 0, locals := 0 } : Room) [.ref h_, .int p1, .int p2, .long p3, .long p5] [(h_, .inr (10, [.ref h_costs, .ref h_highs, .ref h_lows])), (h_costs, .inl (tc.1, n, .inl c_costs)), (h_highs, .inl (tc.2.1, n, .inr (.inl c_highs))), (h_lows, .inl (tc.2.1, n, .inr (.inl c_lows)))] (fX10_isLess n c_costs c_highs c_lows p1 p2 p3 p5) := by
  refine ctI0_of (lv0 := [(0, .ref h_), (1, .int p1), (2, .int p2), (3, .long p3), (5, .long p5)]) (by decide +kernel) (Nat.le_of_ble_eq_true rfl) rfl (fun X C => ?_)
  unfold fX10_isLess
  refine j_iload C d10_isLess_0 2 rfl ?_
  refine j_aload C d10_isLess_1 0 rfl ?_
  refine j_get C d10_isLess_2 fl10_17 0 rfl rfl ?_
  refine j_iload C d10_isLess_5 1 rfl ?_
  refine j_iald C d10_isLess_6 1 rfl (fun x1 => ?_)
  refine j_icmp_eq C d10_isLess_7 ?_ ?_
  · refine j_lload C d10_isLess_26 3 rfl ?_
    refine j_aload C d10_isLess_27 0 rfl ?_
    refine j_get C d10_isLess_28 fl10_21 0 rfl rfl ?_
    refine j_iload C d10_isLess_31 1 rfl ?_
    refine j_lald C d10_isLess_32 2 rfl (fun x2 => ?_)
    refine j_lcmp C d10_isLess_33 ?_
    refine j_if_eq C d10_isLess_34 ?_ ?_
    · refine j_lload C d10_isLess_54 4 rfl ?_
      refine j_aload C d10_isLess_56 0 rfl ?_
      refine j_get C d10_isLess_57 fl10_25 0 rfl rfl ?_
      refine j_iload C d10_isLess_60 1 rfl ?_
      refine j_lald C d10_isLess_61 3 rfl (fun x3 => ?_)
      refine j_lcmp C d10_isLess_62 ?_
      refine j_join 71 (fun v4 => [(h_, .inr (10, [.ref h_costs, .ref h_highs, .ref h_lows])), (h_costs, .inl (tc.1, n, .inl c_costs)), (h_highs, .inl (tc.2.1, n, .inr (.inl c_highs))), (h_lows, .inl (tc.2.1, n, .inr (.inl c_lows)))]) (fun v4 => []) (fun v4 => [.int v4]) (fun v4 => ?_) (fun k5 hk5 => ?_)
      · refine j_gz (fun hz => ?_)
        exact j_zret0 C hz d10_isLess_71
      · refine j_if_ge C d10_isLess_63 ?_ ?_
        · refine j_const C d10_isLess_70 ?_
          exact j_sub [] rfl (hk5 _)
        · refine j_const C d10_isLess_66 ?_
          refine j_goto C d10_isLess_67 ?_
          exact j_sub [] rfl (hk5 _)
    · refine j_lload C d10_isLess_37 3 rfl ?_
      refine j_aload C d10_isLess_38 0 rfl ?_
      refine j_get C d10_isLess_39 fl10_21 0 rfl rfl ?_
      refine j_iload C d10_isLess_42 1 rfl ?_
      refine j_lald C d10_isLess_43 2 rfl (fun x6 => ?_)
      refine j_lcmp C d10_isLess_44 ?_
      refine j_join 53 (fun v7 => [(h_, .inr (10, [.ref h_costs, .ref h_highs, .ref h_lows])), (h_costs, .inl (tc.1, n, .inl c_costs)), (h_highs, .inl (tc.2.1, n, .inr (.inl c_highs))), (h_lows, .inl (tc.2.1, n, .inr (.inl c_lows)))]) (fun v7 => []) (fun v7 => [.int v7]) (fun v7 => ?_) (fun k8 hk8 => ?_)
      · refine j_gz (fun hz => ?_)
        exact j_zret0 C hz d10_isLess_53
      · refine j_if_ge C d10_isLess_45 ?_ ?_
        · refine j_const C d10_isLess_52 ?_
          exact j_sub [] rfl (hk8 _)
        · refine j_const C d10_isLess_48 ?_
          refine j_goto C d10_isLess_49 ?_
          exact j_sub [] rfl (hk8 _)
  · refine j_iload C d10_isLess_10 2 rfl ?_
    refine j_aload C d10_isLess_11 0 rfl ?_
    refine j_get C d10_isLess_12 fl10_17 0 rfl rfl ?_
    refine j_iload C d10_isLess_15 1 rfl ?_
    refine j_iald C d10_isLess_16 1 rfl (fun x9 => ?_)
    refine j_join 25 (fun v10 => [(h_, .inr (10, [.ref h_costs, .ref h_highs, .ref h_lows])), (h_costs, .inl (tc.1, n, .inl c_costs)), (h_highs, .inl (tc.2.1, n, .inr (.inl c_highs))), (h_lows, .inl (tc.2.1, n, .inr (.inl c_lows)))]) (fun v10 => []) (fun v10 => [.int v10]) (fun v10 => ?_) (fun k11 hk11 => ?_)
    · refine j_gz (fun hz => ?_)
      exact j_zret0 C hz d10_isLess_25
    · refine j_icmp_ge C d10_isLess_17 ?_ ?_
      · refine j_const C d10_isLess_24 ?_
        exact j_sub [] rfl (hk11 _)
      · refine j_const C d10_isLess_20 ?_
        refine j_goto C d10_isLess_21 ?_
        exact j_sub [] rfl (hk11 _)

theorem d10_lower_0 : jda cX10_lower 0 0 1 := Or.inl ⟨0, by decide +kernel⟩
theorem d10_lower_1 : jdi cX10_lower 1 1 2 := Or.inl ⟨1, by decide +kernel⟩
theorem d10_lower_2 : jda cX10_lower 2 0 3 := Or.inl ⟨0, by decide +kernel⟩
theorem d10_lower_3 : jd cX10_lower 3 (.getfield 17) 3 6 := by decide +kernel
theorem d10_lower_6 : jdi cX10_lower 6 2 7 := Or.inl ⟨2, by decide +kernel⟩
theorem d10_lower_7 : jd cX10_lower 7 (.iaload) 1 8 := by decide +kernel
theorem d10_lower_8 : jda cX10_lower 8 0 9 := Or.inl ⟨0, by decide +kernel⟩
theorem d10_lower_9 : jd cX10_lower 9 (.getfield 21) 3 12 := by decide +kernel
theorem d10_lower_12 : jdi cX10_lower 12 2 13 := Or.inl ⟨2, by decide +kernel⟩
theorem d10_lower_13 : jd cX10_lower 13 (.laload) 1 14 := by decide +kernel
theorem d10_lower_14 : jda cX10_lower 14 0 15 := Or.inl ⟨0, by decide +kernel⟩
theorem d10_lower_15 : jd cX10_lower 15 (.getfield 25) 3 18 := by decide +kernel
theorem d10_lower_18 : jdi cX10_lower 18 2 19 := Or.inl ⟨2, by decide +kernel⟩
theorem d10_lower_19 : jd cX10_lower 19 (.laload) 1 20 := by decide +kernel
theorem d10_lower_20 : jd cX10_lower 20 (.invokevirtual 50) 3 23 := by decide +kernel
theorem d10_lower_23 : jdb cX10_lower 23 (.ifCond .ne 5) 5 28 26 := by decide +kernel
theorem d10_lower_26 : jdk cX10_lower 26 0 27 := Or.inl ⟨0, by decide +kernel⟩
theorem d10_lower_27 : decode cX10_lower 27 = .ok (.ireturn, 1) := by decide +kernel
theorem d10_lower_28 : jda cX10_lower 28 0 29 := Or.inl ⟨0, by decide +kernel⟩
theorem d10_lower_29 : jdi cX10_lower 29 1 30 := Or.inl ⟨1, by decide +kernel⟩
theorem d10_lower_30 : jda cX10_lower 30 0 31 := Or.inl ⟨0, by decide +kernel⟩
theorem d10_lower_31 : jd cX10_lower 31 (.getfield 17) 3 34 := by decide +kernel
theorem d10_lower_34 : jdi cX10_lower 34 2 35 := Or.inl ⟨2, by decide +kernel⟩
theorem d10_lower_35 : jd cX10_lower 35 (.iaload) 1 36 := by decide +kernel
theorem d10_lower_36 : jda cX10_lower 36 0 37 := Or.inl ⟨0, by decide +kernel⟩
theorem d10_lower_37 : jd cX10_lower 37 (.getfield 21) 3 40 := by decide +kernel
theorem d10_lower_40 : jdi cX10_lower 40 2 41 := Or.inl ⟨2, by decide +kernel⟩
theorem d10_lower_41 : jd cX10_lower 41 (.laload) 1 42 := by decide +kernel
theorem d10_lower_42 : jda cX10_lower 42 0 43 := Or.inl ⟨0, by decide +kernel⟩
theorem d10_lower_43 : jd cX10_lower 43 (.getfield 25) 3 46 := by decide +kernel
theorem d10_lower_46 : jdi cX10_lower 46 2 47 := Or.inl ⟨2, by decide +kernel⟩
theorem d10_lower_47 : jd cX10_lower 47 (.laload) 1 48 := by decide +kernel
theorem d10_lower_48 : jd cX10_lower 48 (.invokevirtual 37) 3 51 := by decide +kernel
theorem d10_lower_51 : jdk cX10_lower 51 1 52 := Or.inl ⟨1, by decide +kernel⟩
theorem d10_lower_52 : decode cX10_lower 52 = .ok (.ireturn, 1) := by decide +kernel
set_option maxHeartbeats 4000000 in
set_option maxRecDepth 100000 in
theorem kX10_lower (l : Launch) (D : va_G) (tc : jTC) (n : Nat) (h_ h_costs h_highs h_lows : Nat) (c_costs : (Nat → Int32)) (c_highs : (Nat → Int64)) (c_lows : (Nat → Int64)) (p1 : Int32) (p2 : Int32) : ctI l D tc yX10_lower (Cond.code yX10_lower cX10_lower 3 (some .boolean) :: jtb) ({ frames := 1, cells := 0, slots := 0, locals := 26 } : Room) [.ref h_, .int p1, .int p2] [(h_, .inr (10, [.ref h_costs, .ref h_highs, .ref h_lows])), (h_costs, .inl (tc.1, n, .inl c_costs)), (h_highs, .inl (tc.2.1, n, .inr (.inl c_highs))), (h_lows, .inl (tc.2.1, n, .inr (.inl c_lows)))] (fX10_lower n c_costs c_highs c_lows p1 p2) (fun (u : (Nat → Int32) × (Nat → Int64) × (Nat → Int64)) => [(h_, .inr (10, [.ref h_costs, .ref h_highs, .ref h_lows])), (h_costs, .inl (tc.1, n, .inl u.1)), (h_highs, .inl (tc.2.1, n, .inr (.inl u.2.1))), (h_lows, .inl (tc.2.1, n, .inr (.inl u.2.2)))]) := by
  refine ctI_of (lv0 := [(0, .ref h_), (1, .int p1), (2, .int p2)]) (by decide +kernel) (Nat.le_of_ble_eq_true rfl) rfl (fun X C => ?_)
  unfold fX10_lower
  refine j_aload C d10_lower_0 0 rfl ?_
  refine j_iload C d10_lower_1 1 rfl ?_
  refine j_aload C d10_lower_2 0 rfl ?_
  refine j_get C d10_lower_3 fl10_17 0 rfl rfl ?_
  refine j_iload C d10_lower_6 2 rfl ?_
  refine j_iald C d10_lower_7 1 rfl (fun x1 => ?_)
  refine j_aload C d10_lower_8 0 rfl ?_
  refine j_get C d10_lower_9 fl10_21 0 rfl rfl ?_
  refine j_iload C d10_lower_12 2 rfl ?_
  refine j_lald C d10_lower_13 2 rfl (fun x2 => ?_)
  refine j_aload C d10_lower_14 0 rfl ?_
  refine j_get C d10_lower_15 fl10_25 0 rfl rfl ?_
  refine j_iload C d10_lower_18 2 rfl ?_
  refine j_lald C d10_lower_19 3 rfl (fun x3 => ?_)
  refine j_callVI0 (As := [.int p1, .int x1, .long x2, .long x3]) C d10_lower_20 mv10_50 (kX10_isLess _ _ tc n h_ h_costs h_highs h_lows c_costs c_highs c_lows p1 x1 x2 x3) ⟨rfl, rfl, Nat.le_of_ble_eq_true rfl, Nat.le_of_ble_eq_true rfl⟩ rfl 0 rfl [0, 1, 2, 3] rfl rfl rfl (Nat.le_of_ble_eq_true rfl) (fun x4 => ?_)
  refine j_if_ne C d10_lower_23 ?_ ?_
  · refine j_aload C d10_lower_28 0 rfl ?_
    refine j_iload C d10_lower_29 1 rfl ?_
    refine j_aload C d10_lower_30 0 rfl ?_
    refine j_get C d10_lower_31 fl10_17 0 rfl rfl ?_
    refine j_iload C d10_lower_34 2 rfl ?_
    refine j_iald C d10_lower_35 1 rfl (fun x5 => ?_)
    refine j_aload C d10_lower_36 0 rfl ?_
    refine j_get C d10_lower_37 fl10_21 0 rfl rfl ?_
    refine j_iload C d10_lower_40 2 rfl ?_
    refine j_lald C d10_lower_41 2 rfl (fun x6 => ?_)
    refine j_aload C d10_lower_42 0 rfl ?_
    refine j_get C d10_lower_43 fl10_25 0 rfl rfl ?_
    refine j_iload C d10_lower_46 2 rfl ?_
    refine j_lald C d10_lower_47 3 rfl (fun x7 => ?_)
    refine j_callVV3 (As := [.int p1, .int x5, .long x6, .long x7]) C d10_lower_48 mv10_37 (kX10_put _ _ tc n h_ h_costs h_highs h_lows c_costs c_highs c_lows p1 x5 x6 x7) ⟨rfl, rfl, Nat.le_of_ble_eq_true rfl, Nat.le_of_ble_eq_true rfl⟩ rfl 0 rfl [0, 1, 2, 3] rfl rfl rfl (Nat.le_of_ble_eq_true rfl) (fun o8 o9 o10 => [(h_, .inr (10, [.ref h_costs, .ref h_highs, .ref h_lows])), (h_costs, .inl (tc.1, n, .inl o8)), (h_highs, .inl (tc.2.1, n, .inr (.inl o9))), (h_lows, .inl (tc.2.1, n, .inr (.inl o10)))]) [(true, 0), (true, 1), (true, 2), (true, 3)] (fun _ => rfl) (by decide +kernel) (fun o8 o9 o10 => ?_)
    refine j_const C d10_lower_51 ?_
    exact j_zret C (by decide) d10_lower_52 rfl
  · refine j_const C d10_lower_26 ?_
    exact j_zret C (by decide) d10_lower_27 rfl

theorem d0_findPlain_0 : jda cX0_findPlain 0 0 1 := Or.inl ⟨0, by decide +kernel⟩
theorem d0_findPlain_1 : jd cX0_findPlain 1 (.getfield 28) 3 4 := by decide +kernel
theorem d0_findPlain_4 : jdb cX0_findPlain 4 (.ifCond .eq 4) 4 8 7 := by decide +kernel
theorem d0_findPlain_7 : decode cX0_findPlain 7 = .ok (.return_, 1) := by decide +kernel
theorem d0_findPlain_8 : jda cX0_findPlain 8 0 9 := Or.inl ⟨0, by decide +kernel⟩
theorem d0_findPlain_9 : jdk cX0_findPlain 9 0 10 := Or.inl ⟨0, by decide +kernel⟩
theorem d0_findPlain_10 : jd cX0_findPlain 10 (.invokevirtual 58) 3 13 := by decide +kernel
theorem d0_findPlain_13 : jdk cX0_findPlain 13 0 14 := Or.inl ⟨0, by decide +kernel⟩
theorem d0_findPlain_14 : jds cX0_findPlain 14 1 15 := Or.inl ⟨1, by decide +kernel⟩
theorem d0_findPlain_15 : jdi cX0_findPlain 15 1 16 := Or.inl ⟨1, by decide +kernel⟩
theorem d0_findPlain_16 : jdk cX0_findPlain 16 8 18 := Or.inr (Or.inl ⟨8, by decide +kernel⟩)
theorem d0_findPlain_18 : jdb cX0_findPlain 18 (.if_icmp .ge 21) 21 39 21 := by decide +kernel
theorem d0_findPlain_21 : jda cX0_findPlain 21 0 22 := Or.inl ⟨0, by decide +kernel⟩
theorem d0_findPlain_22 : jd cX0_findPlain 22 (.getfield 16) 3 25 := by decide +kernel
theorem d0_findPlain_25 : jdk cX0_findPlain 25 0 26 := Or.inl ⟨0, by decide +kernel⟩
theorem d0_findPlain_26 : jdi cX0_findPlain 26 1 27 := Or.inl ⟨1, by decide +kernel⟩
theorem d0_findPlain_27 : jd cX0_findPlain 27 (.iadd) 1 28 := by decide +kernel
theorem d0_findPlain_28 : jdi cX0_findPlain 28 1 29 := Or.inl ⟨1, by decide +kernel⟩
theorem d0_findPlain_29 : jdk cX0_findPlain 29 0 30 := Or.inl ⟨0, by decide +kernel⟩
theorem d0_findPlain_30 : jd cX0_findPlain 30 (.invokevirtual 61) 3 33 := by decide +kernel
theorem d0_findPlain_33 : jd cX0_findPlain 33 (.iinc 1 1) 3 36 := by decide +kernel
theorem d0_findPlain_36 : jdb cX0_findPlain 36 (.goto (-21)) (-21) 15 39 := by decide +kernel
theorem d0_findPlain_39 : jdk cX0_findPlain 39 1 40 := Or.inl ⟨1, by decide +kernel⟩
theorem d0_findPlain_40 : jds cX0_findPlain 40 1 41 := Or.inl ⟨1, by decide +kernel⟩
theorem d0_findPlain_41 : jdk cX0_findPlain 41 0 42 := Or.inl ⟨0, by decide +kernel⟩
theorem d0_findPlain_42 : jds cX0_findPlain 42 2 43 := Or.inl ⟨2, by decide +kernel⟩
theorem d0_findPlain_43 : jdi cX0_findPlain 43 2 44 := Or.inl ⟨2, by decide +kernel⟩
theorem d0_findPlain_44 : jdk cX0_findPlain 44 1000 47 := Or.inr (Or.inr ⟨1000, by decide +kernel⟩)
theorem d0_findPlain_47 : jdb cX0_findPlain 47 (.if_icmp .ge 71) 71 118 50 := by decide +kernel
theorem d0_findPlain_50 : jdi cX0_findPlain 50 1 51 := Or.inl ⟨1, by decide +kernel⟩
theorem d0_findPlain_51 : jdb cX0_findPlain 51 (.ifCond .eq 67) 67 118 54 := by decide +kernel
theorem d0_findPlain_54 : jdk cX0_findPlain 54 0 55 := Or.inl ⟨0, by decide +kernel⟩
theorem d0_findPlain_55 : jds cX0_findPlain 55 1 56 := Or.inl ⟨1, by decide +kernel⟩
theorem d0_findPlain_56 : jdk cX0_findPlain 56 0 57 := Or.inl ⟨0, by decide +kernel⟩
theorem d0_findPlain_57 : jds cX0_findPlain 57 3 58 := Or.inl ⟨3, by decide +kernel⟩
theorem d0_findPlain_58 : jdi cX0_findPlain 58 3 59 := Or.inl ⟨3, by decide +kernel⟩
theorem d0_findPlain_59 : jda cX0_findPlain 59 0 60 := Or.inl ⟨0, by decide +kernel⟩
theorem d0_findPlain_60 : jd cX0_findPlain 60 (.getfield 24) 3 63 := by decide +kernel
theorem d0_findPlain_63 : jd cX0_findPlain 63 (.getfield 65) 3 66 := by decide +kernel
theorem d0_findPlain_66 : jdb cX0_findPlain 66 (.if_icmp .ge 46) 46 112 69 := by decide +kernel
theorem d0_findPlain_69 : jda cX0_findPlain 69 0 70 := Or.inl ⟨0, by decide +kernel⟩
theorem d0_findPlain_70 : jdi cX0_findPlain 70 3 71 := Or.inl ⟨3, by decide +kernel⟩
theorem d0_findPlain_71 : jd cX0_findPlain 71 (.invokevirtual 68) 3 74 := by decide +kernel
theorem d0_findPlain_74 : jda cX0_findPlain 74 0 75 := Or.inl ⟨0, by decide +kernel⟩
theorem d0_findPlain_75 : jd cX0_findPlain 75 (.getfield 16) 3 78 := by decide +kernel
theorem d0_findPlain_78 : jdk cX0_findPlain 78 0 79 := Or.inl ⟨0, by decide +kernel⟩
theorem d0_findPlain_79 : jda cX0_findPlain 79 0 80 := Or.inl ⟨0, by decide +kernel⟩
theorem d0_findPlain_80 : jdi cX0_findPlain 80 3 81 := Or.inl ⟨3, by decide +kernel⟩
theorem d0_findPlain_81 : jd cX0_findPlain 81 (.invokevirtual 71) 3 84 := by decide +kernel
theorem d0_findPlain_84 : jd cX0_findPlain 84 (.iadd) 1 85 := by decide +kernel
theorem d0_findPlain_85 : jdi cX0_findPlain 85 3 86 := Or.inl ⟨3, by decide +kernel⟩
theorem d0_findPlain_86 : jdk cX0_findPlain 86 0 87 := Or.inl ⟨0, by decide +kernel⟩
theorem d0_findPlain_87 : jd cX0_findPlain 87 (.invokestatic 74) 3 90 := by decide +kernel
theorem d0_findPlain_90 : jd cX0_findPlain 90 (.invokevirtual 78) 3 93 := by decide +kernel
theorem d0_findPlain_93 : jdb cX0_findPlain 93 (.ifCond .ne 7) 7 100 96 := by decide +kernel
theorem d0_findPlain_96 : jdi cX0_findPlain 96 1 97 := Or.inl ⟨1, by decide +kernel⟩
theorem d0_findPlain_97 : jdb cX0_findPlain 97 (.ifCond .eq 7) 7 104 100 := by decide +kernel
theorem d0_findPlain_100 : jdk cX0_findPlain 100 1 101 := Or.inl ⟨1, by decide +kernel⟩
theorem d0_findPlain_101 : jdb cX0_findPlain 101 (.goto 4) 4 105 104 := by decide +kernel
theorem d0_findPlain_104 : jdk cX0_findPlain 104 0 105 := Or.inl ⟨0, by decide +kernel⟩
theorem d0_findPlain_105 : jds cX0_findPlain 105 1 106 := Or.inl ⟨1, by decide +kernel⟩
theorem d0_findPlain_106 : jd cX0_findPlain 106 (.iinc 3 1) 3 109 := by decide +kernel
theorem d0_findPlain_109 : jdb cX0_findPlain 109 (.goto (-51)) (-51) 58 112 := by decide +kernel
theorem d0_findPlain_112 : jd cX0_findPlain 112 (.iinc 2 1) 3 115 := by decide +kernel
theorem d0_findPlain_115 : jdb cX0_findPlain 115 (.goto (-72)) (-72) 43 118 := by decide +kernel
theorem d0_findPlain_118 : jda cX0_findPlain 118 0 119 := Or.inl ⟨0, by decide +kernel⟩
theorem d0_findPlain_119 : jdk cX0_findPlain 119 1 120 := Or.inl ⟨1, by decide +kernel⟩
theorem d0_findPlain_120 : jd cX0_findPlain 120 (.putfield 28) 3 123 := by decide +kernel
theorem d0_findPlain_123 : decode cX0_findPlain 123 = .ok (.return_, 1) := by decide +kernel
set_option maxHeartbeats 4000000 in
set_option maxRecDepth 100000 in
theorem wX0_findPlain_58 {X : jC} {tc : jTC} (C : jx X cX0_findPlain 4 RX0 none tc ({ frames := 3, cells := 0, slots := 0, locals := 73 } : Room)) (N : Nat) (h_ h_rules h_rules_codes h_words h_words_costs h_words_highs h_words_lows : Nat) (g_exampleKey : Value) (c_rules_codes : (Nat → Int32)) (c_rules_count : Int32) (c_plainKnown : Int32) (v12 : Int32) (k22 : (Int32 → (Nat → Int32) → (Nat → Int64) → (Nat → Int64) → Option ((Nat → Int32) × (Nat → Int64) × (Nat → Int64) × Int32))) (hk22 : ∀ (v43 : Int32) (v44 : (Nat → Int32)) (v45 : (Nat → Int64)) (v46 : (Nat → Int64)), jo X 4 (0, 0) (jQV X (fun (u : (Nat → Int32) × (Nat → Int64) × (Nat → Int64) × Int32) => [(h_, .inr (0, [.ref h_rules, .ref h_words, .int u.2.2.2, g_exampleKey])), (h_rules, .inr (6, [.ref h_rules_codes, .int c_rules_count])), (h_rules_codes, .inl (tc.1, 24, .inl c_rules_codes)), (h_words, .inr (10, [.ref h_words_costs, .ref h_words_highs, .ref h_words_lows])), (h_words_costs, .inl (tc.1, 362, .inl u.1)), (h_words_highs, .inl (tc.2.1, 362, .inr (.inl u.2.1))), (h_words_lows, .inl (tc.2.1, 362, .inr (.inl u.2.2.1)))])) (k22 v43 v44 v45 v46) [(h_, .inr (0, [.ref h_rules, .ref h_words, .int c_plainKnown, g_exampleKey])), (h_rules, .inr (6, [.ref h_rules_codes, .int c_rules_count])), (h_rules_codes, .inl (tc.1, 24, .inl c_rules_codes)), (h_words, .inr (10, [.ref h_words_costs, .ref h_words_highs, .ref h_words_lows])), (h_words_costs, .inl (tc.1, 362, .inl v44)), (h_words_highs, .inl (tc.2.1, 362, .inr (.inl v45))), (h_words_lows, .inl (tc.2.1, 362, .inr (.inl v46)))] 112 [(0, .ref h_), (1, .int v43), (2, .int v12)] []) (rc28 : Int32 → Int32 → (Nat → Int32) → (Nat → Int64) → (Nat → Int64) → Option ((Nat → Int32) × (Nat → Int64) × (Nat → Int64) × Int32)) (hrc28 : ∀ (v23 : Int32) (v24 : Int32) (v25 : (Nat → Int32)) (v26 : (Nat → Int64)) (v27 : (Nat → Int64)), jo X 4 (0, 0) (jQV X (fun (u : (Nat → Int32) × (Nat → Int64) × (Nat → Int64) × Int32) => [(h_, .inr (0, [.ref h_rules, .ref h_words, .int u.2.2.2, g_exampleKey])), (h_rules, .inr (6, [.ref h_rules_codes, .int c_rules_count])), (h_rules_codes, .inl (tc.1, 24, .inl c_rules_codes)), (h_words, .inr (10, [.ref h_words_costs, .ref h_words_highs, .ref h_words_lows])), (h_words_costs, .inl (tc.1, 362, .inl u.1)), (h_words_highs, .inl (tc.2.1, 362, .inr (.inl u.2.1))), (h_words_lows, .inl (tc.2.1, 362, .inr (.inl u.2.2.1)))])) (rc28 v23 v24 v25 v26 v27) [(h_, .inr (0, [.ref h_rules, .ref h_words, .int c_plainKnown, g_exampleKey])), (h_rules, .inr (6, [.ref h_rules_codes, .int c_rules_count])), (h_rules_codes, .inl (tc.1, 24, .inl c_rules_codes)), (h_words, .inr (10, [.ref h_words_costs, .ref h_words_highs, .ref h_words_lows])), (h_words_costs, .inl (tc.1, 362, .inl v25)), (h_words_highs, .inl (tc.2.1, 362, .inr (.inl v26))), (h_words_lows, .inl (tc.2.1, 362, .inr (.inl v27)))] 58 [(0, .ref h_), (1, .int v23), (2, .int v12), (3, .int v24)] []) (v23 : Int32) (v24 : Int32) (v25 : (Nat → Int32)) (v26 : (Nat → Int64)) (v27 : (Nat → Int64)) : jo X 4 (0, 0) (jQV X (fun (u : (Nat → Int32) × (Nat → Int64) × (Nat → Int64) × Int32) => [(h_, .inr (0, [.ref h_rules, .ref h_words, .int u.2.2.2, g_exampleKey])), (h_rules, .inr (6, [.ref h_rules_codes, .int c_rules_count])), (h_rules_codes, .inl (tc.1, 24, .inl c_rules_codes)), (h_words, .inr (10, [.ref h_words_costs, .ref h_words_highs, .ref h_words_lows])), (h_words_costs, .inl (tc.1, 362, .inl u.1)), (h_words_highs, .inl (tc.2.1, 362, .inr (.inl u.2.1))), (h_words_lows, .inl (tc.2.1, 362, .inr (.inl u.2.2.1)))])) (bX0_findPlain_58 N c_rules_codes c_rules_count k22 rc28 v23 v24 v25 v26 v27) [(h_, .inr (0, [.ref h_rules, .ref h_words, .int c_plainKnown, g_exampleKey])), (h_rules, .inr (6, [.ref h_rules_codes, .int c_rules_count])), (h_rules_codes, .inl (tc.1, 24, .inl c_rules_codes)), (h_words, .inr (10, [.ref h_words_costs, .ref h_words_highs, .ref h_words_lows])), (h_words_costs, .inl (tc.1, 362, .inl v25)), (h_words_highs, .inl (tc.2.1, 362, .inr (.inl v26))), (h_words_lows, .inl (tc.2.1, 362, .inr (.inl v27)))] 58 [(0, .ref h_), (1, .int v23), (2, .int v12), (3, .int v24)] [] := by
  unfold bX0_findPlain_58
  refine j_iload C d0_findPlain_58 3 rfl ?_
  refine j_aload C d0_findPlain_59 0 rfl ?_
  refine j_get C d0_findPlain_60 fl0_24 0 rfl rfl ?_
  refine j_get C d0_findPlain_63 fl0_65 1 rfl rfl ?_
  refine j_icmp_ge C d0_findPlain_66 ?_ ?_
  · exact j_sub [0, 1, 2] rfl (hk22 _ _ _ _)
  · refine j_aload C d0_findPlain_69 0 rfl ?_
    refine j_iload C d0_findPlain_70 3 rfl ?_
    refine j_callVV3 (As := [.int v24]) C d0_findPlain_71 mv0_68 (kX0_putPlainTails _ _ tc N h_ h_rules h_rules_codes h_words h_words_costs h_words_highs h_words_lows (.int c_plainKnown) g_exampleKey (.int c_rules_count) c_rules_codes v25 v26 v27 v24) ⟨rfl, rfl, Nat.le_of_ble_eq_true rfl, Nat.le_of_ble_eq_true rfl⟩ rfl 0 rfl [0, 1, 2, 3, 4, 5, 6] rfl rfl rfl (Nat.le_of_ble_eq_true rfl) (fun o29 o30 o31 => [(h_, .inr (0, [.ref h_rules, .ref h_words, .int c_plainKnown, g_exampleKey])), (h_rules, .inr (6, [.ref h_rules_codes, .int c_rules_count])), (h_rules_codes, .inl (tc.1, 24, .inl c_rules_codes)), (h_words, .inr (10, [.ref h_words_costs, .ref h_words_highs, .ref h_words_lows])), (h_words_costs, .inl (tc.1, 362, .inl o29)), (h_words_highs, .inl (tc.2.1, 362, .inr (.inl o30))), (h_words_lows, .inl (tc.2.1, 362, .inr (.inl o31)))]) [(true, 0), (true, 1), (true, 2), (true, 3), (true, 4), (true, 5), (true, 6)] (fun _ => rfl) (by decide +kernel) (fun o29 o30 o31 => ?_)
    refine j_aload C d0_findPlain_74 0 rfl ?_
    refine j_get C d0_findPlain_75 fl0_16 0 rfl rfl ?_
    refine j_const C d0_findPlain_78 ?_
    refine j_aload C d0_findPlain_79 0 rfl ?_
    refine j_iload C d0_findPlain_80 3 rfl ?_
    refine j_callVI0 (As := [.int v24]) C d0_findPlain_81 mv0_71 (kX0_leftSymbol _ _ tc h_ h_rules h_rules_codes (.ref h_words) (.int c_plainKnown) g_exampleKey (.int c_rules_count) c_rules_codes v24) ⟨rfl, rfl, Nat.le_of_ble_eq_true rfl, Nat.le_of_ble_eq_true rfl⟩ rfl 0 rfl [0, 1, 2] rfl rfl rfl (Nat.le_of_ble_eq_true rfl) (fun x32 => ?_)
    refine j_iadd C d0_findPlain_84 ?_
    refine j_iload C d0_findPlain_85 3 rfl ?_
    refine j_const C d0_findPlain_86 ?_
    refine j_callSI0 (As := [.int v24, .int 0]) C d0_findPlain_87 ms0_74 (kX0_plainTail _ _ tc v24 0) ⟨rfl, rfl, Nat.le_of_ble_eq_true rfl, Nat.le_of_ble_eq_true rfl⟩ rfl [] rfl rfl rfl (Nat.le_of_ble_eq_true rfl) (fun x33 => ?_)
    refine j_callVI4 (As := [.int ((0 : Int32) + x32), .int x33]) C d0_findPlain_90 mv0_78 (kX10_lower _ _ tc 362 h_words h_words_costs h_words_highs h_words_lows o29 o30 o31 ((0 : Int32) + x32) x33) ⟨rfl, rfl, Nat.le_of_ble_eq_true rfl, Nat.le_of_ble_eq_true rfl⟩ rfl 3 rfl [3, 4, 5, 6] rfl rfl rfl (Nat.le_of_ble_eq_true rfl) (fun o34 o35 o36 => [(h_, .inr (0, [.ref h_rules, .ref h_words, .int c_plainKnown, g_exampleKey])), (h_rules, .inr (6, [.ref h_rules_codes, .int c_rules_count])), (h_rules_codes, .inl (tc.1, 24, .inl c_rules_codes)), (h_words, .inr (10, [.ref h_words_costs, .ref h_words_highs, .ref h_words_lows])), (h_words_costs, .inl (tc.1, 362, .inl o34)), (h_words_highs, .inl (tc.2.1, 362, .inr (.inl o35))), (h_words_lows, .inl (tc.2.1, 362, .inr (.inl o36)))]) [(false, 0), (false, 1), (false, 2), (true, 0), (true, 1), (true, 2), (true, 3)] (fun _ => rfl) (by decide +kernel) (fun o37 o34 o35 o36 => ?_)
    refine j_join 105 (fun v38 => [(h_, .inr (0, [.ref h_rules, .ref h_words, .int c_plainKnown, g_exampleKey])), (h_rules, .inr (6, [.ref h_rules_codes, .int c_rules_count])), (h_rules_codes, .inl (tc.1, 24, .inl c_rules_codes)), (h_words, .inr (10, [.ref h_words_costs, .ref h_words_highs, .ref h_words_lows])), (h_words_costs, .inl (tc.1, 362, .inl o34)), (h_words_highs, .inl (tc.2.1, 362, .inr (.inl o35))), (h_words_lows, .inl (tc.2.1, 362, .inr (.inl o36)))]) (fun v38 => [(0, .ref h_), (2, .int v12), (3, .int v24)]) (fun v38 => [.int v38]) (fun v38 => ?_) (fun k40 hk40 => ?_)
    · refine j_istore C d0_findPlain_105 (by decide) (lv' := [(1, .int v38), (0, .ref h_), (2, .int v12), (3, .int v24)]) rfl ?_
      refine j_iincN C (fun x39 => [(3, .int x39), (1, .int v38), (0, .ref h_), (2, .int v12)]) d0_findPlain_106 3 rfl (by decide +kernel) (by decide) (fun _ => rfl) (fun x39 => ?_)
      refine j_goto C d0_findPlain_109 ?_
      exact j_sub [2, 1, 3, 0] rfl (hrc28 _ _ _ _ _)
    · refine j_join 100 (fun v41 => [(h_, .inr (0, [.ref h_rules, .ref h_words, .int c_plainKnown, g_exampleKey])), (h_rules, .inr (6, [.ref h_rules_codes, .int c_rules_count])), (h_rules_codes, .inl (tc.1, 24, .inl c_rules_codes)), (h_words, .inr (10, [.ref h_words_costs, .ref h_words_highs, .ref h_words_lows])), (h_words_costs, .inl (tc.1, 362, .inl o34)), (h_words_highs, .inl (tc.2.1, 362, .inr (.inl o35))), (h_words_lows, .inl (tc.2.1, 362, .inr (.inl o36)))]) (fun v41 => [(0, .ref h_), (2, .int v12), (3, .int v24)]) (fun v41 => []) (fun v41 => ?_) (fun k42 hk42 => ?_)
      · refine j_const C d0_findPlain_100 ?_
        refine j_goto C d0_findPlain_101 ?_
        exact hk40 _
      · refine j_if_ne C d0_findPlain_93 ?_ ?_
        · exact j_sub [0, 2, 3] rfl (hk42 _)
        · refine j_iload C d0_findPlain_96 1 rfl ?_
          refine j_if_eq C d0_findPlain_97 ?_ ?_
          · refine j_const C d0_findPlain_104 ?_
            exact j_sub [0, 2, 3] rfl (hk40 _)
          · exact j_sub [0, 2, 3] rfl (hk42 _)

set_option maxHeartbeats 4000000 in
set_option maxRecDepth 100000 in
theorem wX0_findPlain_43 {X : jC} {tc : jTC} (C : jx X cX0_findPlain 4 RX0 none tc ({ frames := 3, cells := 0, slots := 0, locals := 73 } : Room)) (N : Nat) (h_ h_rules h_rules_codes h_words h_words_costs h_words_highs h_words_lows : Nat) (g_exampleKey : Value) (c_rules_codes : (Nat → Int32)) (c_rules_count : Int32) (c_plainKnown : Int32) (k10 : ((Nat → Int32) → (Nat → Int64) → (Nat → Int64) → Option ((Nat → Int32) × (Nat → Int64) × (Nat → Int64) × Int32))) (hk10 : ∀ (v47 : (Nat → Int32)) (v48 : (Nat → Int64)) (v49 : (Nat → Int64)), jo X 4 (0, 0) (jQV X (fun (u : (Nat → Int32) × (Nat → Int64) × (Nat → Int64) × Int32) => [(h_, .inr (0, [.ref h_rules, .ref h_words, .int u.2.2.2, g_exampleKey])), (h_rules, .inr (6, [.ref h_rules_codes, .int c_rules_count])), (h_rules_codes, .inl (tc.1, 24, .inl c_rules_codes)), (h_words, .inr (10, [.ref h_words_costs, .ref h_words_highs, .ref h_words_lows])), (h_words_costs, .inl (tc.1, 362, .inl u.1)), (h_words_highs, .inl (tc.2.1, 362, .inr (.inl u.2.1))), (h_words_lows, .inl (tc.2.1, 362, .inr (.inl u.2.2.1)))])) (k10 v47 v48 v49) [(h_, .inr (0, [.ref h_rules, .ref h_words, .int c_plainKnown, g_exampleKey])), (h_rules, .inr (6, [.ref h_rules_codes, .int c_rules_count])), (h_rules_codes, .inl (tc.1, 24, .inl c_rules_codes)), (h_words, .inr (10, [.ref h_words_costs, .ref h_words_highs, .ref h_words_lows])), (h_words_costs, .inl (tc.1, 362, .inl v47)), (h_words_highs, .inl (tc.2.1, 362, .inr (.inl v48))), (h_words_lows, .inl (tc.2.1, 362, .inr (.inl v49)))] 118 [(0, .ref h_)] []) (rc16 : Int32 → Int32 → (Nat → Int32) → (Nat → Int64) → (Nat → Int64) → Option ((Nat → Int32) × (Nat → Int64) × (Nat → Int64) × Int32)) (hrc16 : ∀ (v11 : Int32) (v12 : Int32) (v13 : (Nat → Int32)) (v14 : (Nat → Int64)) (v15 : (Nat → Int64)), jo X 4 (0, 0) (jQV X (fun (u : (Nat → Int32) × (Nat → Int64) × (Nat → Int64) × Int32) => [(h_, .inr (0, [.ref h_rules, .ref h_words, .int u.2.2.2, g_exampleKey])), (h_rules, .inr (6, [.ref h_rules_codes, .int c_rules_count])), (h_rules_codes, .inl (tc.1, 24, .inl c_rules_codes)), (h_words, .inr (10, [.ref h_words_costs, .ref h_words_highs, .ref h_words_lows])), (h_words_costs, .inl (tc.1, 362, .inl u.1)), (h_words_highs, .inl (tc.2.1, 362, .inr (.inl u.2.1))), (h_words_lows, .inl (tc.2.1, 362, .inr (.inl u.2.2.1)))])) (rc16 v11 v12 v13 v14 v15) [(h_, .inr (0, [.ref h_rules, .ref h_words, .int c_plainKnown, g_exampleKey])), (h_rules, .inr (6, [.ref h_rules_codes, .int c_rules_count])), (h_rules_codes, .inl (tc.1, 24, .inl c_rules_codes)), (h_words, .inr (10, [.ref h_words_costs, .ref h_words_highs, .ref h_words_lows])), (h_words_costs, .inl (tc.1, 362, .inl v13)), (h_words_highs, .inl (tc.2.1, 362, .inr (.inl v14))), (h_words_lows, .inl (tc.2.1, 362, .inr (.inl v15)))] 43 [(0, .ref h_), (1, .int v11), (2, .int v12)] []) (v11 : Int32) (v12 : Int32) (v13 : (Nat → Int32)) (v14 : (Nat → Int64)) (v15 : (Nat → Int64)) : jo X 4 (0, 0) (jQV X (fun (u : (Nat → Int32) × (Nat → Int64) × (Nat → Int64) × Int32) => [(h_, .inr (0, [.ref h_rules, .ref h_words, .int u.2.2.2, g_exampleKey])), (h_rules, .inr (6, [.ref h_rules_codes, .int c_rules_count])), (h_rules_codes, .inl (tc.1, 24, .inl c_rules_codes)), (h_words, .inr (10, [.ref h_words_costs, .ref h_words_highs, .ref h_words_lows])), (h_words_costs, .inl (tc.1, 362, .inl u.1)), (h_words_highs, .inl (tc.2.1, 362, .inr (.inl u.2.1))), (h_words_lows, .inl (tc.2.1, 362, .inr (.inl u.2.2.1)))])) (bX0_findPlain_43 N c_rules_codes c_rules_count k10 rc16 v11 v12 v13 v14 v15) [(h_, .inr (0, [.ref h_rules, .ref h_words, .int c_plainKnown, g_exampleKey])), (h_rules, .inr (6, [.ref h_rules_codes, .int c_rules_count])), (h_rules_codes, .inl (tc.1, 24, .inl c_rules_codes)), (h_words, .inr (10, [.ref h_words_costs, .ref h_words_highs, .ref h_words_lows])), (h_words_costs, .inl (tc.1, 362, .inl v13)), (h_words_highs, .inl (tc.2.1, 362, .inr (.inl v14))), (h_words_lows, .inl (tc.2.1, 362, .inr (.inl v15)))] 43 [(0, .ref h_), (1, .int v11), (2, .int v12)] [] := by
  unfold bX0_findPlain_43
  refine j_iload C d0_findPlain_43 2 rfl ?_
  refine j_const C d0_findPlain_44 ?_
  refine j_icmp_ge C d0_findPlain_47 ?_ ?_
  · exact j_sub [0] rfl (hk10 _ _ _)
  · refine j_iload C d0_findPlain_50 1 rfl ?_
    refine j_if_eq C d0_findPlain_51 ?_ ?_
    · exact j_sub [0] rfl (hk10 _ _ _)
    · refine j_const C d0_findPlain_54 ?_
      refine j_istore C d0_findPlain_55 (by decide) (lv' := [(1, .int 0), (0, .ref h_), (2, .int v12)]) rfl ?_
      refine j_const C d0_findPlain_56 ?_
      refine j_istore C d0_findPlain_57 (by decide) (lv' := [(3, .int 0), (1, .int 0), (0, .ref h_), (2, .int v12)]) rfl ?_
      refine j_join4 112 (fun v17 v18 v19 v20 => [(h_, .inr (0, [.ref h_rules, .ref h_words, .int c_plainKnown, g_exampleKey])), (h_rules, .inr (6, [.ref h_rules_codes, .int c_rules_count])), (h_rules_codes, .inl (tc.1, 24, .inl c_rules_codes)), (h_words, .inr (10, [.ref h_words_costs, .ref h_words_highs, .ref h_words_lows])), (h_words_costs, .inl (tc.1, 362, .inl v18)), (h_words_highs, .inl (tc.2.1, 362, .inr (.inl v19))), (h_words_lows, .inl (tc.2.1, 362, .inr (.inl v20)))]) (fun v17 v18 v19 v20 => [(0, .ref h_), (1, .int v17), (2, .int v12)]) (fun v17 v18 v19 v20 => []) (fun v17 v18 v19 v20 => ?_) (fun k22 hk22 => ?_)
      · refine j_iincN C (fun x21 => [(2, .int x21), (0, .ref h_), (1, .int v17)]) d0_findPlain_112 2 rfl (by decide +kernel) (by decide) (fun _ => rfl) (fun x21 => ?_)
        refine j_goto C d0_findPlain_115 ?_
        exact j_sub [1, 2, 0] rfl (hrc16 _ _ _ _ _)
      · exact j_sub [2, 1, 3, 0] rfl (j_loop5 (fun v23 v24 v25 v26 v27 => [(h_, .inr (0, [.ref h_rules, .ref h_words, .int c_plainKnown, g_exampleKey])), (h_rules, .inr (6, [.ref h_rules_codes, .int c_rules_count])), (h_rules_codes, .inl (tc.1, 24, .inl c_rules_codes)), (h_words, .inr (10, [.ref h_words_costs, .ref h_words_highs, .ref h_words_lows])), (h_words_costs, .inl (tc.1, 362, .inl v25)), (h_words_highs, .inl (tc.2.1, 362, .inr (.inl v26))), (h_words_lows, .inl (tc.2.1, 362, .inr (.inl v27)))]) (fun v23 v24 v25 v26 v27 => [(0, .ref h_), (1, .int v23), (2, .int v12), (3, .int v24)]) (fun rc28 hrc28 v23 v24 v25 v26 v27 => wX0_findPlain_58 C N h_ h_rules h_rules_codes h_words h_words_costs h_words_highs h_words_lows g_exampleKey c_rules_codes c_rules_count c_plainKnown v12 k22 hk22 rc28 hrc28 v23 v24 v25 v26 v27) N _ _ _ _ _)

set_option maxHeartbeats 4000000 in
set_option maxRecDepth 100000 in
theorem wX0_findPlain_15 {X : jC} {tc : jTC} (C : jx X cX0_findPlain 4 RX0 none tc ({ frames := 3, cells := 0, slots := 0, locals := 73 } : Room)) (h_ h_rules h_rules_codes h_words h_words_costs h_words_highs h_words_lows : Nat) (g_exampleKey : Value) (c_rules_codes : (Nat → Int32)) (c_rules_count : Int32) (c_plainKnown : Int32) (k50 : ((Nat → Int32) → (Nat → Int64) → (Nat → Int64) → Option ((Nat → Int32) × (Nat → Int64) × (Nat → Int64) × Int32))) (hk50 : ∀ (v60 : (Nat → Int32)) (v61 : (Nat → Int64)) (v62 : (Nat → Int64)), jo X 4 (0, 0) (jQV X (fun (u : (Nat → Int32) × (Nat → Int64) × (Nat → Int64) × Int32) => [(h_, .inr (0, [.ref h_rules, .ref h_words, .int u.2.2.2, g_exampleKey])), (h_rules, .inr (6, [.ref h_rules_codes, .int c_rules_count])), (h_rules_codes, .inl (tc.1, 24, .inl c_rules_codes)), (h_words, .inr (10, [.ref h_words_costs, .ref h_words_highs, .ref h_words_lows])), (h_words_costs, .inl (tc.1, 362, .inl u.1)), (h_words_highs, .inl (tc.2.1, 362, .inr (.inl u.2.1))), (h_words_lows, .inl (tc.2.1, 362, .inr (.inl u.2.2.1)))])) (k50 v60 v61 v62) [(h_, .inr (0, [.ref h_rules, .ref h_words, .int c_plainKnown, g_exampleKey])), (h_rules, .inr (6, [.ref h_rules_codes, .int c_rules_count])), (h_rules_codes, .inl (tc.1, 24, .inl c_rules_codes)), (h_words, .inr (10, [.ref h_words_costs, .ref h_words_highs, .ref h_words_lows])), (h_words_costs, .inl (tc.1, 362, .inl v60)), (h_words_highs, .inl (tc.2.1, 362, .inr (.inl v61))), (h_words_lows, .inl (tc.2.1, 362, .inr (.inl v62)))] 39 [(0, .ref h_)] []) (rc55 : Int32 → (Nat → Int32) → (Nat → Int64) → (Nat → Int64) → Option ((Nat → Int32) × (Nat → Int64) × (Nat → Int64) × Int32)) (hrc55 : ∀ (v51 : Int32) (v52 : (Nat → Int32)) (v53 : (Nat → Int64)) (v54 : (Nat → Int64)), jo X 4 (0, 0) (jQV X (fun (u : (Nat → Int32) × (Nat → Int64) × (Nat → Int64) × Int32) => [(h_, .inr (0, [.ref h_rules, .ref h_words, .int u.2.2.2, g_exampleKey])), (h_rules, .inr (6, [.ref h_rules_codes, .int c_rules_count])), (h_rules_codes, .inl (tc.1, 24, .inl c_rules_codes)), (h_words, .inr (10, [.ref h_words_costs, .ref h_words_highs, .ref h_words_lows])), (h_words_costs, .inl (tc.1, 362, .inl u.1)), (h_words_highs, .inl (tc.2.1, 362, .inr (.inl u.2.1))), (h_words_lows, .inl (tc.2.1, 362, .inr (.inl u.2.2.1)))])) (rc55 v51 v52 v53 v54) [(h_, .inr (0, [.ref h_rules, .ref h_words, .int c_plainKnown, g_exampleKey])), (h_rules, .inr (6, [.ref h_rules_codes, .int c_rules_count])), (h_rules_codes, .inl (tc.1, 24, .inl c_rules_codes)), (h_words, .inr (10, [.ref h_words_costs, .ref h_words_highs, .ref h_words_lows])), (h_words_costs, .inl (tc.1, 362, .inl v52)), (h_words_highs, .inl (tc.2.1, 362, .inr (.inl v53))), (h_words_lows, .inl (tc.2.1, 362, .inr (.inl v54)))] 15 [(0, .ref h_), (1, .int v51)] []) (v51 : Int32) (v52 : (Nat → Int32)) (v53 : (Nat → Int64)) (v54 : (Nat → Int64)) : jo X 4 (0, 0) (jQV X (fun (u : (Nat → Int32) × (Nat → Int64) × (Nat → Int64) × Int32) => [(h_, .inr (0, [.ref h_rules, .ref h_words, .int u.2.2.2, g_exampleKey])), (h_rules, .inr (6, [.ref h_rules_codes, .int c_rules_count])), (h_rules_codes, .inl (tc.1, 24, .inl c_rules_codes)), (h_words, .inr (10, [.ref h_words_costs, .ref h_words_highs, .ref h_words_lows])), (h_words_costs, .inl (tc.1, 362, .inl u.1)), (h_words_highs, .inl (tc.2.1, 362, .inr (.inl u.2.1))), (h_words_lows, .inl (tc.2.1, 362, .inr (.inl u.2.2.1)))])) (bX0_findPlain_15 k50 rc55 v51 v52 v53 v54) [(h_, .inr (0, [.ref h_rules, .ref h_words, .int c_plainKnown, g_exampleKey])), (h_rules, .inr (6, [.ref h_rules_codes, .int c_rules_count])), (h_rules_codes, .inl (tc.1, 24, .inl c_rules_codes)), (h_words, .inr (10, [.ref h_words_costs, .ref h_words_highs, .ref h_words_lows])), (h_words_costs, .inl (tc.1, 362, .inl v52)), (h_words_highs, .inl (tc.2.1, 362, .inr (.inl v53))), (h_words_lows, .inl (tc.2.1, 362, .inr (.inl v54)))] 15 [(0, .ref h_), (1, .int v51)] [] := by
  unfold bX0_findPlain_15
  refine j_iload C d0_findPlain_15 1 rfl ?_
  refine j_const C d0_findPlain_16 ?_
  refine j_icmp_ge C d0_findPlain_18 ?_ ?_
  · exact j_sub [0] rfl (hk50 _ _ _)
  · refine j_aload C d0_findPlain_21 0 rfl ?_
    refine j_get C d0_findPlain_22 fl0_16 0 rfl rfl ?_
    refine j_const C d0_findPlain_25 ?_
    refine j_iload C d0_findPlain_26 1 rfl ?_
    refine j_iadd C d0_findPlain_27 ?_
    refine j_iload C d0_findPlain_28 1 rfl ?_
    refine j_const C d0_findPlain_29 ?_
    refine j_callVV3 (As := [.int ((0 : Int32) + v51), .int v51, .int 0]) C d0_findPlain_30 mv0_61 (kX10_putTerminal _ _ tc 362 h_words h_words_costs h_words_highs h_words_lows v52 v53 v54 ((0 : Int32) + v51) v51 0) ⟨rfl, rfl, Nat.le_of_ble_eq_true rfl, Nat.le_of_ble_eq_true rfl⟩ rfl 3 rfl [3, 4, 5, 6] rfl rfl rfl (Nat.le_of_ble_eq_true rfl) (fun o56 o57 o58 => [(h_, .inr (0, [.ref h_rules, .ref h_words, .int c_plainKnown, g_exampleKey])), (h_rules, .inr (6, [.ref h_rules_codes, .int c_rules_count])), (h_rules_codes, .inl (tc.1, 24, .inl c_rules_codes)), (h_words, .inr (10, [.ref h_words_costs, .ref h_words_highs, .ref h_words_lows])), (h_words_costs, .inl (tc.1, 362, .inl o56)), (h_words_highs, .inl (tc.2.1, 362, .inr (.inl o57))), (h_words_lows, .inl (tc.2.1, 362, .inr (.inl o58)))]) [(false, 0), (false, 1), (false, 2), (true, 0), (true, 1), (true, 2), (true, 3)] (fun _ => rfl) (by decide +kernel) (fun o56 o57 o58 => ?_)
    refine j_iincN C (fun x59 => [(1, .int x59), (0, .ref h_)]) d0_findPlain_33 1 rfl (by decide +kernel) (by decide) (fun _ => rfl) (fun x59 => ?_)
    refine j_goto C d0_findPlain_36 ?_
    exact j_sub [1, 0] rfl (hrc55 _ _ _ _)

set_option maxHeartbeats 4000000 in
set_option maxRecDepth 100000 in
theorem kX0_findPlain (l : Launch) (D : va_G) (tc : jTC) (N : Nat) (h_ h_rules h_rules_codes h_words h_words_costs h_words_highs h_words_lows : Nat) (g_exampleKey : Value) (c_rules_codes : (Nat → Int32)) (c_rules_count : Int32) (c_words_costs : (Nat → Int32)) (c_words_highs : (Nat → Int64)) (c_words_lows : (Nat → Int64)) (c_plainKnown : Int32) : ctV l D tc yX0_findPlain (Cond.code yX0_findPlain cX0_findPlain 4 none :: jtb) ({ frames := 3, cells := 0, slots := 0, locals := 73 } : Room) [.ref h_] [(h_, .inr (0, [.ref h_rules, .ref h_words, .int c_plainKnown, g_exampleKey])), (h_rules, .inr (6, [.ref h_rules_codes, .int c_rules_count])), (h_rules_codes, .inl (tc.1, 24, .inl c_rules_codes)), (h_words, .inr (10, [.ref h_words_costs, .ref h_words_highs, .ref h_words_lows])), (h_words_costs, .inl (tc.1, 362, .inl c_words_costs)), (h_words_highs, .inl (tc.2.1, 362, .inr (.inl c_words_highs))), (h_words_lows, .inl (tc.2.1, 362, .inr (.inl c_words_lows)))] (fX0_findPlain N c_rules_codes c_rules_count c_words_costs c_words_highs c_words_lows c_plainKnown) (fun (u : (Nat → Int32) × (Nat → Int64) × (Nat → Int64) × Int32) => [(h_, .inr (0, [.ref h_rules, .ref h_words, .int u.2.2.2, g_exampleKey])), (h_rules, .inr (6, [.ref h_rules_codes, .int c_rules_count])), (h_rules_codes, .inl (tc.1, 24, .inl c_rules_codes)), (h_words, .inr (10, [.ref h_words_costs, .ref h_words_highs, .ref h_words_lows])), (h_words_costs, .inl (tc.1, 362, .inl u.1)), (h_words_highs, .inl (tc.2.1, 362, .inr (.inl u.2.1))), (h_words_lows, .inl (tc.2.1, 362, .inr (.inl u.2.2.1)))]) := by
  refine ctV_of (lv0 := [(0, .ref h_)]) (by decide +kernel) (Nat.le_of_ble_eq_true rfl) rfl (fun X C => ?_)
  unfold fX0_findPlain
  refine j_aload C d0_findPlain_0 0 rfl ?_
  refine j_get C d0_findPlain_1 fl0_28 0 rfl rfl ?_
  refine j_if_eq C d0_findPlain_4 ?_ ?_
  · refine j_aload C d0_findPlain_8 0 rfl ?_
    refine j_const C d0_findPlain_9 ?_
    refine j_callVV3 (As := [.int 0]) C d0_findPlain_10 mv0_58 (kX0_forgetKind _ _ tc N h_ h_words h_words_costs h_words_highs h_words_lows (.ref h_rules) (.int c_plainKnown) g_exampleKey c_words_costs c_words_highs c_words_lows 0) ⟨rfl, rfl, Nat.le_of_ble_eq_true rfl, Nat.le_of_ble_eq_true rfl⟩ rfl 0 rfl [0, 3, 4, 5, 6] rfl rfl rfl (Nat.le_of_ble_eq_true rfl) (fun o1 o2 o3 => [(h_, .inr (0, [.ref h_rules, .ref h_words, .int c_plainKnown, g_exampleKey])), (h_rules, .inr (6, [.ref h_rules_codes, .int c_rules_count])), (h_rules_codes, .inl (tc.1, 24, .inl c_rules_codes)), (h_words, .inr (10, [.ref h_words_costs, .ref h_words_highs, .ref h_words_lows])), (h_words_costs, .inl (tc.1, 362, .inl o1)), (h_words_highs, .inl (tc.2.1, 362, .inr (.inl o2))), (h_words_lows, .inl (tc.2.1, 362, .inr (.inl o3)))]) [(true, 0), (false, 1), (false, 2), (true, 1), (true, 2), (true, 3), (true, 4)] (fun _ => rfl) (by decide +kernel) (fun o1 o2 o3 => ?_)
    refine j_const C d0_findPlain_13 ?_
    refine j_istore C d0_findPlain_14 (by decide) (lv' := [(1, .int 0), (0, .ref h_)]) rfl ?_
    refine j_join3 39 (fun v4 v5 v6 => [(h_, .inr (0, [.ref h_rules, .ref h_words, .int c_plainKnown, g_exampleKey])), (h_rules, .inr (6, [.ref h_rules_codes, .int c_rules_count])), (h_rules_codes, .inl (tc.1, 24, .inl c_rules_codes)), (h_words, .inr (10, [.ref h_words_costs, .ref h_words_highs, .ref h_words_lows])), (h_words_costs, .inl (tc.1, 362, .inl v4)), (h_words_highs, .inl (tc.2.1, 362, .inr (.inl v5))), (h_words_lows, .inl (tc.2.1, 362, .inr (.inl v6)))]) (fun v4 v5 v6 => [(0, .ref h_)]) (fun v4 v5 v6 => []) (fun v4 v5 v6 => ?_) (fun k50 hk50 => ?_)
    · refine j_const C d0_findPlain_39 ?_
      refine j_istore C d0_findPlain_40 (by decide) (lv' := [(1, .int 1), (0, .ref h_)]) rfl ?_
      refine j_const C d0_findPlain_41 ?_
      refine j_istore C d0_findPlain_42 (by decide) (lv' := [(2, .int 0), (1, .int 1), (0, .ref h_)]) rfl ?_
      refine j_join3 118 (fun v7 v8 v9 => [(h_, .inr (0, [.ref h_rules, .ref h_words, .int c_plainKnown, g_exampleKey])), (h_rules, .inr (6, [.ref h_rules_codes, .int c_rules_count])), (h_rules_codes, .inl (tc.1, 24, .inl c_rules_codes)), (h_words, .inr (10, [.ref h_words_costs, .ref h_words_highs, .ref h_words_lows])), (h_words_costs, .inl (tc.1, 362, .inl v7)), (h_words_highs, .inl (tc.2.1, 362, .inr (.inl v8))), (h_words_lows, .inl (tc.2.1, 362, .inr (.inl v9)))]) (fun v7 v8 v9 => [(0, .ref h_)]) (fun v7 v8 v9 => []) (fun v7 v8 v9 => ?_) (fun k10 hk10 => ?_)
      · refine j_aload C d0_findPlain_118 0 rfl ?_
        refine j_const C d0_findPlain_119 ?_
        refine j_putq C d0_findPlain_120 fq0_28 0 rfl rfl rfl (Nat.le_of_ble_eq_true rfl) (ws' := [(h_, .inr (0, [.ref h_rules, .ref h_words, .int 1, g_exampleKey])), (h_rules, .inr (6, [.ref h_rules_codes, .int c_rules_count])), (h_rules_codes, .inl (tc.1, 24, .inl c_rules_codes)), (h_words, .inr (10, [.ref h_words_costs, .ref h_words_highs, .ref h_words_lows])), (h_words_costs, .inl (tc.1, 362, .inl v7)), (h_words_highs, .inl (tc.2.1, 362, .inr (.inl v8))), (h_words_lows, .inl (tc.2.1, 362, .inr (.inl v9)))]) rfl ?_
        exact j_vret C d0_findPlain_123 rfl
      · exact j_sub [2, 1, 0] rfl (j_loop5 (fun v11 v12 v13 v14 v15 => [(h_, .inr (0, [.ref h_rules, .ref h_words, .int c_plainKnown, g_exampleKey])), (h_rules, .inr (6, [.ref h_rules_codes, .int c_rules_count])), (h_rules_codes, .inl (tc.1, 24, .inl c_rules_codes)), (h_words, .inr (10, [.ref h_words_costs, .ref h_words_highs, .ref h_words_lows])), (h_words_costs, .inl (tc.1, 362, .inl v13)), (h_words_highs, .inl (tc.2.1, 362, .inr (.inl v14))), (h_words_lows, .inl (tc.2.1, 362, .inr (.inl v15)))]) (fun v11 v12 v13 v14 v15 => [(0, .ref h_), (1, .int v11), (2, .int v12)]) (fun rc16 hrc16 v11 v12 v13 v14 v15 => wX0_findPlain_43 C N h_ h_rules h_rules_codes h_words h_words_costs h_words_highs h_words_lows g_exampleKey c_rules_codes c_rules_count c_plainKnown k10 hk10 rc16 hrc16 v11 v12 v13 v14 v15) N _ _ _ _ _)
    · exact j_sub [1, 0] rfl (j_loop4 (fun v51 v52 v53 v54 => [(h_, .inr (0, [.ref h_rules, .ref h_words, .int c_plainKnown, g_exampleKey])), (h_rules, .inr (6, [.ref h_rules_codes, .int c_rules_count])), (h_rules_codes, .inl (tc.1, 24, .inl c_rules_codes)), (h_words, .inr (10, [.ref h_words_costs, .ref h_words_highs, .ref h_words_lows])), (h_words_costs, .inl (tc.1, 362, .inl v52)), (h_words_highs, .inl (tc.2.1, 362, .inr (.inl v53))), (h_words_lows, .inl (tc.2.1, 362, .inr (.inl v54)))]) (fun v51 v52 v53 v54 => [(0, .ref h_), (1, .int v51)]) (fun rc55 hrc55 v51 v52 v53 v54 => wX0_findPlain_15 C h_ h_rules h_rules_codes h_words h_words_costs h_words_highs h_words_lows g_exampleKey c_rules_codes c_rules_count c_plainKnown k50 hk50 rc55 hrc55 v51 v52 v53 v54) N _ _ _ _)
  · exact j_vret C d0_findPlain_7 rfl

theorem d0_shortestWord_0 : jda cX0_shortestWord 0 0 1 := Or.inl ⟨0, by decide +kernel⟩
theorem d0_shortestWord_1 : jd cX0_shortestWord 1 (.invokevirtual 32) 3 4 := by decide +kernel
theorem d0_shortestWord_4 : jdk cX0_shortestWord 4 10 6 := Or.inr (Or.inl ⟨10, by decide +kernel⟩)
theorem d0_shortestWord_6 : jdi cX0_shortestWord 6 1 7 := Or.inl ⟨1, by decide +kernel⟩
theorem d0_shortestWord_7 : jd cX0_shortestWord 7 (.iadd) 1 8 := by decide +kernel
theorem d0_shortestWord_8 : decode cX0_shortestWord 8 = .ok (.ireturn, 1) := by decide +kernel
set_option maxHeartbeats 4000000 in
set_option maxRecDepth 100000 in
theorem kX0_shortestWord (l : Launch) (D : va_G) (tc : jTC) (N : Nat) (h_ h_rules h_rules_codes h_words h_words_costs h_words_highs h_words_lows : Nat) (g_exampleKey : Value) (c_rules_codes : (Nat → Int32)) (c_rules_count : Int32) (c_words_costs : (Nat → Int32)) (c_words_highs : (Nat → Int64)) (c_words_lows : (Nat → Int64)) (c_plainKnown : Int32) (p1 : Int32) : ctI l D tc yX0_shortestWord (Cond.code yX0_shortestWord cX0_shortestWord 2 (some .int) :: jtb) ({ frames := 4, cells := 0, slots := 0, locals := 96 } : Room) [.ref h_, .int p1] [(h_, .inr (0, [.ref h_rules, .ref h_words, .int c_plainKnown, g_exampleKey])), (h_rules, .inr (6, [.ref h_rules_codes, .int c_rules_count])), (h_rules_codes, .inl (tc.1, 24, .inl c_rules_codes)), (h_words, .inr (10, [.ref h_words_costs, .ref h_words_highs, .ref h_words_lows])), (h_words_costs, .inl (tc.1, 362, .inl c_words_costs)), (h_words_highs, .inl (tc.2.1, 362, .inr (.inl c_words_highs))), (h_words_lows, .inl (tc.2.1, 362, .inr (.inl c_words_lows)))] (fX0_shortestWord N c_rules_codes c_rules_count c_words_costs c_words_highs c_words_lows c_plainKnown p1) (fun (u : (Nat → Int32) × (Nat → Int64) × (Nat → Int64) × Int32) => [(h_, .inr (0, [.ref h_rules, .ref h_words, .int u.2.2.2, g_exampleKey])), (h_rules, .inr (6, [.ref h_rules_codes, .int c_rules_count])), (h_rules_codes, .inl (tc.1, 24, .inl c_rules_codes)), (h_words, .inr (10, [.ref h_words_costs, .ref h_words_highs, .ref h_words_lows])), (h_words_costs, .inl (tc.1, 362, .inl u.1)), (h_words_highs, .inl (tc.2.1, 362, .inr (.inl u.2.1))), (h_words_lows, .inl (tc.2.1, 362, .inr (.inl u.2.2.1)))]) := by
  refine ctI_of (lv0 := [(0, .ref h_), (1, .int p1)]) (by decide +kernel) (Nat.le_of_ble_eq_true rfl) rfl (fun X C => ?_)
  unfold fX0_shortestWord
  refine j_aload C d0_shortestWord_0 0 rfl ?_
  refine j_callVV4 (As := []) C d0_shortestWord_1 mv0_32 (kX0_findPlain _ _ tc N h_ h_rules h_rules_codes h_words h_words_costs h_words_highs h_words_lows g_exampleKey c_rules_codes c_rules_count c_words_costs c_words_highs c_words_lows c_plainKnown) ⟨rfl, rfl, Nat.le_of_ble_eq_true rfl, Nat.le_of_ble_eq_true rfl⟩ rfl 0 rfl [0, 1, 2, 3, 4, 5, 6] rfl rfl rfl (Nat.le_of_ble_eq_true rfl) (fun o1 o2 o3 o4 => [(h_, .inr (0, [.ref h_rules, .ref h_words, .int o4, g_exampleKey])), (h_rules, .inr (6, [.ref h_rules_codes, .int c_rules_count])), (h_rules_codes, .inl (tc.1, 24, .inl c_rules_codes)), (h_words, .inr (10, [.ref h_words_costs, .ref h_words_highs, .ref h_words_lows])), (h_words_costs, .inl (tc.1, 362, .inl o1)), (h_words_highs, .inl (tc.2.1, 362, .inr (.inl o2))), (h_words_lows, .inl (tc.2.1, 362, .inr (.inl o3)))]) [(true, 0), (true, 1), (true, 2), (true, 3), (true, 4), (true, 5), (true, 6)] (fun _ => rfl) (by decide +kernel) (fun o1 o2 o3 o4 => ?_)
  refine j_const C d0_shortestWord_4 ?_
  refine j_iload C d0_shortestWord_6 1 rfl ?_
  refine j_iadd C d0_shortestWord_7 ?_
  exact j_iret C d0_shortestWord_8 rfl

theorem d6_has_0 : jdi cX6_has 0 1 1 := Or.inl ⟨1, by decide +kernel⟩
theorem d6_has_1 : jdb cX6_has 1 (.ifCond .lt 15) 15 16 4 := by decide +kernel
theorem d6_has_4 : jdi cX6_has 4 1 5 := Or.inl ⟨1, by decide +kernel⟩
theorem d6_has_5 : jda cX6_has 5 0 6 := Or.inl ⟨0, by decide +kernel⟩
theorem d6_has_6 : jd cX6_has 6 (.getfield 37) 3 9 := by decide +kernel
theorem d6_has_9 : jdb cX6_has 9 (.if_icmp .ge 7) 7 16 12 := by decide +kernel
theorem d6_has_12 : jdk cX6_has 12 1 13 := Or.inl ⟨1, by decide +kernel⟩
theorem d6_has_13 : jdb cX6_has 13 (.goto 4) 4 17 16 := by decide +kernel
theorem d6_has_16 : jdk cX6_has 16 0 17 := Or.inl ⟨0, by decide +kernel⟩
theorem d6_has_17 : decode cX6_has 17 = .ok (.ireturn, 1) := by decide +kernel
set_option maxHeartbeats 4000000 in
set_option maxRecDepth 100000 in
theorem kX6_has (l : Launch) (D : va_G) (tc : jTC) (h_ : Nat) (g_codes : Value) (c_count : Int32) (p1 : Int32) : ctI0 l D tc yX6_has (Cond.code yX6_has cX6_has 2 (some .boolean) :: jtb) ({ frames := 0, cells := 0, slots := 0, locals := 0 } : Room) [.ref h_, .int p1] [(h_, .inr (6, [g_codes, .int c_count]))] (fX6_has c_count p1) := by
  refine ctI0_of (lv0 := [(0, .ref h_), (1, .int p1)]) (by decide +kernel) (Nat.le_of_ble_eq_true rfl) rfl (fun X C => ?_)
  unfold fX6_has
  refine j_iload C d6_has_0 1 rfl ?_
  refine j_join 17 (fun v1 => [(h_, .inr (6, [g_codes, .int c_count]))]) (fun v1 => []) (fun v1 => [.int v1]) (fun v1 => ?_) (fun k2 hk2 => ?_)
  · refine j_gz (fun hz => ?_)
    exact j_zret0 C hz d6_has_17
  · refine j_join 16 (fun v3 => [(h_, .inr (6, [g_codes, .int c_count]))]) (fun v3 => []) (fun v3 => []) (fun v3 => ?_) (fun k4 hk4 => ?_)
    · refine j_const C d6_has_16 ?_
      exact hk2 _
    · refine j_if_lt C d6_has_1 ?_ ?_
      · exact j_sub [] rfl (hk4 _)
      · refine j_iload C d6_has_4 1 rfl ?_
        refine j_aload C d6_has_5 0 rfl ?_
        refine j_get C d6_has_6 fl6_37 0 rfl rfl ?_
        refine j_icmp_ge C d6_has_9 ?_ ?_
        · exact j_sub [] rfl (hk4 _)
        · refine j_const C d6_has_12 ?_
          refine j_goto C d6_has_13 ?_
          exact j_sub [] rfl (hk2 _)

theorem d0_startingTail_0 : jdk cX0_startingTail 0 218 3 := Or.inr (Or.inr ⟨218, by decide +kernel⟩)
theorem d0_startingTail_3 : jdi cX0_startingTail 3 0 4 := Or.inl ⟨0, by decide +kernel⟩
theorem d0_startingTail_4 : jdk cX0_startingTail 4 6 6 := Or.inr (Or.inl ⟨6, by decide +kernel⟩)
theorem d0_startingTail_6 : jd cX0_startingTail 6 (.imul) 1 7 := by decide +kernel
theorem d0_startingTail_7 : jd cX0_startingTail 7 (.iadd) 1 8 := by decide +kernel
theorem d0_startingTail_8 : jdi cX0_startingTail 8 1 9 := Or.inl ⟨1, by decide +kernel⟩
theorem d0_startingTail_9 : jd cX0_startingTail 9 (.iadd) 1 10 := by decide +kernel
theorem d0_startingTail_10 : decode cX0_startingTail 10 = .ok (.ireturn, 1) := by decide +kernel
set_option maxHeartbeats 4000000 in
set_option maxRecDepth 100000 in
theorem kX0_startingTail (l : Launch) (D : va_G) (tc : jTC) (p0 : Int32) (p1 : Int32) : ctI0 l D tc yX0_startingTail (Cond.code yX0_startingTail cX0_startingTail 2 (some .int) :: jtb) ({ frames := 0, cells := 0, slots := 0, locals := 0 } : Room) [.int p0, .int p1] [] (fX0_startingTail p0 p1) := by
  refine ctI0_of (lv0 := [(0, .int p0), (1, .int p1)]) (by decide +kernel) (Nat.le_of_ble_eq_true rfl) rfl (fun X C => ?_)
  unfold fX0_startingTail
  refine j_const C d0_startingTail_0 ?_
  refine j_iload C d0_startingTail_3 0 rfl ?_
  refine j_const C d0_startingTail_4 ?_
  refine j_imul C d0_startingTail_6 ?_
  refine j_iadd C d0_startingTail_7 ?_
  refine j_iload C d0_startingTail_8 1 rfl ?_
  refine j_iadd C d0_startingTail_9 ?_
  exact j_iret0 C d0_startingTail_10

theorem d10_isEmpty_0 : jda cX10_isEmpty 0 0 1 := Or.inl ⟨0, by decide +kernel⟩
theorem d10_isEmpty_1 : jd cX10_isEmpty 1 (.getfield 17) 3 4 := by decide +kernel
theorem d10_isEmpty_4 : jdi cX10_isEmpty 4 1 5 := Or.inl ⟨1, by decide +kernel⟩
theorem d10_isEmpty_5 : jd cX10_isEmpty 5 (.iaload) 1 6 := by decide +kernel
theorem d10_isEmpty_6 : jdb cX10_isEmpty 6 (.ifCond .ne 7) 7 13 9 := by decide +kernel
theorem d10_isEmpty_9 : jdk cX10_isEmpty 9 1 10 := Or.inl ⟨1, by decide +kernel⟩
theorem d10_isEmpty_10 : jdb cX10_isEmpty 10 (.goto 4) 4 14 13 := by decide +kernel
theorem d10_isEmpty_13 : jdk cX10_isEmpty 13 0 14 := Or.inl ⟨0, by decide +kernel⟩
theorem d10_isEmpty_14 : decode cX10_isEmpty 14 = .ok (.ireturn, 1) := by decide +kernel
set_option maxHeartbeats 4000000 in
set_option maxRecDepth 100000 in
theorem kX10_isEmpty (l : Launch) (D : va_G) (tc : jTC) (n : Nat) (h_ h_costs : Nat) (g_highs g_lows : Value) (c_costs : (Nat → Int32)) (p1 : Int32) : ctI0 l D tc yX10_isEmpty (Cond.code yX10_isEmpty cX10_isEmpty 2 (some .boolean) :: jtb) ({ frames := 0, cells := 0, slots := 0, locals := 0 } : Room) [.ref h_, .int p1] [(h_, .inr (10, [.ref h_costs, g_highs, g_lows])), (h_costs, .inl (tc.1, n, .inl c_costs))] (fX10_isEmpty n c_costs p1) := by
  refine ctI0_of (lv0 := [(0, .ref h_), (1, .int p1)]) (by decide +kernel) (Nat.le_of_ble_eq_true rfl) rfl (fun X C => ?_)
  unfold fX10_isEmpty
  refine j_aload C d10_isEmpty_0 0 rfl ?_
  refine j_get C d10_isEmpty_1 fl10_17 0 rfl rfl ?_
  refine j_iload C d10_isEmpty_4 1 rfl ?_
  refine j_iald C d10_isEmpty_5 1 rfl (fun x1 => ?_)
  refine j_join 14 (fun v2 => [(h_, .inr (10, [.ref h_costs, g_highs, g_lows])), (h_costs, .inl (tc.1, n, .inl c_costs))]) (fun v2 => []) (fun v2 => [.int v2]) (fun v2 => ?_) (fun k3 hk3 => ?_)
  · refine j_gz (fun hz => ?_)
    exact j_zret0 C hz d10_isEmpty_14
  · refine j_if_ne C d10_isEmpty_6 ?_ ?_
    · refine j_const C d10_isEmpty_13 ?_
      exact j_sub [] rfl (hk3 _)
    · refine j_const C d10_isEmpty_9 ?_
      refine j_goto C d10_isEmpty_10 ?_
      exact j_sub [] rfl (hk3 _)

theorem d0_putStartingTails_0 : jda cX0_putStartingTails 0 0 1 := Or.inl ⟨0, by decide +kernel⟩
theorem d0_putStartingTails_1 : jd cX0_putStartingTails 1 (.getfield 24) 3 4 := by decide +kernel
theorem d0_putStartingTails_4 : jd cX0_putStartingTails 4 (.getfield 47) 3 7 := by decide +kernel
theorem d0_putStartingTails_7 : jdi cX0_putStartingTails 7 1 8 := Or.inl ⟨1, by decide +kernel⟩
theorem d0_putStartingTails_8 : jd cX0_putStartingTails 8 (.iaload) 1 9 := by decide +kernel
theorem d0_putStartingTails_9 : jds cX0_putStartingTails 9 2 10 := Or.inl ⟨2, by decide +kernel⟩
theorem d0_putStartingTails_10 : jdi cX0_putStartingTails 10 2 11 := Or.inl ⟨2, by decide +kernel⟩
theorem d0_putStartingTails_11 : jd cX0_putStartingTails 11 (.invokestatic 82) 3 14 := by decide +kernel
theorem d0_putStartingTails_14 : jds cX0_putStartingTails 14 3 15 := Or.inl ⟨3, by decide +kernel⟩
theorem d0_putStartingTails_15 : jda cX0_putStartingTails 15 0 16 := Or.inl ⟨0, by decide +kernel⟩
theorem d0_putStartingTails_16 : jd cX0_putStartingTails 16 (.getfield 16) 3 19 := by decide +kernel
theorem d0_putStartingTails_19 : jdi cX0_putStartingTails 19 1 20 := Or.inl ⟨1, by decide +kernel⟩
theorem d0_putStartingTails_20 : jdi cX0_putStartingTails 20 3 21 := Or.inl ⟨3, by decide +kernel⟩
theorem d0_putStartingTails_21 : jd cX0_putStartingTails 21 (.invokestatic 101) 3 24 := by decide +kernel
theorem d0_putStartingTails_24 : jd cX0_putStartingTails 24 (.invokevirtual 55) 3 27 := by decide +kernel
theorem d0_putStartingTails_27 : jdi cX0_putStartingTails 27 3 28 := Or.inl ⟨3, by decide +kernel⟩
theorem d0_putStartingTails_28 : jdk cX0_putStartingTails 28 1 29 := Or.inl ⟨1, by decide +kernel⟩
theorem d0_putStartingTails_29 : jd cX0_putStartingTails 29 (.isub) 1 30 := by decide +kernel
theorem d0_putStartingTails_30 : jds cX0_putStartingTails 30 4 32 := Or.inr (by decide +kernel)
theorem d0_putStartingTails_32 : jdi cX0_putStartingTails 32 4 34 := Or.inr (by decide +kernel)
theorem d0_putStartingTails_34 : jdb cX0_putStartingTails 34 (.ifCond .lt 92) 92 126 37 := by decide +kernel
theorem d0_putStartingTails_37 : jdi cX0_putStartingTails 37 2 38 := Or.inl ⟨2, by decide +kernel⟩
theorem d0_putStartingTails_38 : jdi cX0_putStartingTails 38 4 40 := Or.inr (by decide +kernel)
theorem d0_putStartingTails_40 : jd cX0_putStartingTails 40 (.invokestatic 88) 3 43 := by decide +kernel
theorem d0_putStartingTails_43 : jds cX0_putStartingTails 43 5 45 := Or.inr (by decide +kernel)
theorem d0_putStartingTails_45 : jda cX0_putStartingTails 45 0 46 := Or.inl ⟨0, by decide +kernel⟩
theorem d0_putStartingTails_46 : jd cX0_putStartingTails 46 (.getfield 16) 3 49 := by decide +kernel
theorem d0_putStartingTails_49 : jdi cX0_putStartingTails 49 1 50 := Or.inl ⟨1, by decide +kernel⟩
theorem d0_putStartingTails_50 : jdi cX0_putStartingTails 50 4 52 := Or.inr (by decide +kernel)
theorem d0_putStartingTails_52 : jd cX0_putStartingTails 52 (.invokestatic 101) 3 55 := by decide +kernel
theorem d0_putStartingTails_55 : jdk cX0_putStartingTails 55 18 57 := Or.inr (Or.inl ⟨18, by decide +kernel⟩)
theorem d0_putStartingTails_57 : jdi cX0_putStartingTails 57 5 59 := Or.inr (by decide +kernel)
theorem d0_putStartingTails_59 : jd cX0_putStartingTails 59 (.iadd) 1 60 := by decide +kernel
theorem d0_putStartingTails_60 : jd cX0_putStartingTails 60 (.invokevirtual 91) 3 63 := by decide +kernel
theorem d0_putStartingTails_63 : jda cX0_putStartingTails 63 0 64 := Or.inl ⟨0, by decide +kernel⟩
theorem d0_putStartingTails_64 : jd cX0_putStartingTails 64 (.getfield 16) 3 67 := by decide +kernel
theorem d0_putStartingTails_67 : jdi cX0_putStartingTails 67 1 68 := Or.inl ⟨1, by decide +kernel⟩
theorem d0_putStartingTails_68 : jdi cX0_putStartingTails 68 4 70 := Or.inr (by decide +kernel)
theorem d0_putStartingTails_70 : jd cX0_putStartingTails 70 (.invokestatic 101) 3 73 := by decide +kernel
theorem d0_putStartingTails_73 : jdi cX0_putStartingTails 73 1 74 := Or.inl ⟨1, by decide +kernel⟩
theorem d0_putStartingTails_74 : jdi cX0_putStartingTails 74 4 76 := Or.inr (by decide +kernel)
theorem d0_putStartingTails_76 : jdk cX0_putStartingTails 76 1 77 := Or.inl ⟨1, by decide +kernel⟩
theorem d0_putStartingTails_77 : jd cX0_putStartingTails 77 (.iadd) 1 78 := by decide +kernel
theorem d0_putStartingTails_78 : jd cX0_putStartingTails 78 (.invokestatic 74) 3 81 := by decide +kernel
theorem d0_putStartingTails_81 : jd cX0_putStartingTails 81 (.invokevirtual 95) 3 84 := by decide +kernel
theorem d0_putStartingTails_84 : jda cX0_putStartingTails 84 0 85 := Or.inl ⟨0, by decide +kernel⟩
theorem d0_putStartingTails_85 : jd cX0_putStartingTails 85 (.getfield 16) 3 88 := by decide +kernel
theorem d0_putStartingTails_88 : jdk cX0_putStartingTails 88 0 89 := Or.inl ⟨0, by decide +kernel⟩
theorem d0_putStartingTails_89 : jdi cX0_putStartingTails 89 5 91 := Or.inr (by decide +kernel)
theorem d0_putStartingTails_91 : jd cX0_putStartingTails 91 (.iadd) 1 92 := by decide +kernel
theorem d0_putStartingTails_92 : jd cX0_putStartingTails 92 (.invokevirtual 104) 3 95 := by decide +kernel
theorem d0_putStartingTails_95 : jdb cX0_putStartingTails 95 (.ifCond .eq 25) 25 120 98 := by decide +kernel
theorem d0_putStartingTails_98 : jda cX0_putStartingTails 98 0 99 := Or.inl ⟨0, by decide +kernel⟩
theorem d0_putStartingTails_99 : jd cX0_putStartingTails 99 (.getfield 16) 3 102 := by decide +kernel
theorem d0_putStartingTails_102 : jdi cX0_putStartingTails 102 1 103 := Or.inl ⟨1, by decide +kernel⟩
theorem d0_putStartingTails_103 : jdi cX0_putStartingTails 103 4 105 := Or.inr (by decide +kernel)
theorem d0_putStartingTails_105 : jd cX0_putStartingTails 105 (.invokestatic 101) 3 108 := by decide +kernel
theorem d0_putStartingTails_108 : jdi cX0_putStartingTails 108 1 109 := Or.inl ⟨1, by decide +kernel⟩
theorem d0_putStartingTails_109 : jdi cX0_putStartingTails 109 4 111 := Or.inr (by decide +kernel)
theorem d0_putStartingTails_111 : jdk cX0_putStartingTails 111 1 112 := Or.inl ⟨1, by decide +kernel⟩
theorem d0_putStartingTails_112 : jd cX0_putStartingTails 112 (.iadd) 1 113 := by decide +kernel
theorem d0_putStartingTails_113 : jd cX0_putStartingTails 113 (.invokestatic 101) 3 116 := by decide +kernel
theorem d0_putStartingTails_116 : jd cX0_putStartingTails 116 (.invokevirtual 78) 3 119 := by decide +kernel
theorem d0_putStartingTails_119 : jd cX0_putStartingTails 119 (.pop) 1 120 := by decide +kernel
theorem d0_putStartingTails_120 : jd cX0_putStartingTails 120 (.iinc 4 (-1)) 3 123 := by decide +kernel
theorem d0_putStartingTails_123 : jdb cX0_putStartingTails 123 (.goto (-91)) (-91) 32 126 := by decide +kernel
theorem d0_putStartingTails_126 : decode cX0_putStartingTails 126 = .ok (.return_, 1) := by decide +kernel
set_option maxHeartbeats 4000000 in
set_option maxRecDepth 100000 in
theorem wX0_putStartingTails_32 {X : jC} {tc : jTC} (C : jx X cX0_putStartingTails 6 RX0 none tc ({ frames := 2, cells := 0, slots := 0, locals := 49 } : Room)) (h_ h_rules h_rules_codes h_words h_words_costs h_words_highs h_words_lows : Nat) (g_plainKnown g_exampleKey g_rules_count : Value) (p1 : Int32) (c_rules_codes : (Nat → Int32)) (x1 : Int32) (k11 : ((Nat → Int32) → (Nat → Int64) → (Nat → Int64) → Option ((Nat → Int32) × (Nat → Int64) × (Nat → Int64)))) (hk11 : ∀ (v39 : (Nat → Int32)) (v40 : (Nat → Int64)) (v41 : (Nat → Int64)), jo X 6 (0, 0) (jQV X (fun (u : (Nat → Int32) × (Nat → Int64) × (Nat → Int64)) => [(h_, .inr (0, [.ref h_rules, .ref h_words, g_plainKnown, g_exampleKey])), (h_rules, .inr (6, [.ref h_rules_codes, g_rules_count])), (h_rules_codes, .inl (tc.1, 24, .inl c_rules_codes)), (h_words, .inr (10, [.ref h_words_costs, .ref h_words_highs, .ref h_words_lows])), (h_words_costs, .inl (tc.1, 362, .inl u.1)), (h_words_highs, .inl (tc.2.1, 362, .inr (.inl u.2.1))), (h_words_lows, .inl (tc.2.1, 362, .inr (.inl u.2.2)))])) (k11 v39 v40 v41) [(h_, .inr (0, [.ref h_rules, .ref h_words, g_plainKnown, g_exampleKey])), (h_rules, .inr (6, [.ref h_rules_codes, g_rules_count])), (h_rules_codes, .inl (tc.1, 24, .inl c_rules_codes)), (h_words, .inr (10, [.ref h_words_costs, .ref h_words_highs, .ref h_words_lows])), (h_words_costs, .inl (tc.1, 362, .inl v39)), (h_words_highs, .inl (tc.2.1, 362, .inr (.inl v40))), (h_words_lows, .inl (tc.2.1, 362, .inr (.inl v41)))] 126 [] []) (rc16 : Int32 → (Nat → Int32) → (Nat → Int64) → (Nat → Int64) → Option ((Nat → Int32) × (Nat → Int64) × (Nat → Int64))) (hrc16 : ∀ (v12 : Int32) (v13 : (Nat → Int32)) (v14 : (Nat → Int64)) (v15 : (Nat → Int64)), jo X 6 (0, 0) (jQV X (fun (u : (Nat → Int32) × (Nat → Int64) × (Nat → Int64)) => [(h_, .inr (0, [.ref h_rules, .ref h_words, g_plainKnown, g_exampleKey])), (h_rules, .inr (6, [.ref h_rules_codes, g_rules_count])), (h_rules_codes, .inl (tc.1, 24, .inl c_rules_codes)), (h_words, .inr (10, [.ref h_words_costs, .ref h_words_highs, .ref h_words_lows])), (h_words_costs, .inl (tc.1, 362, .inl u.1)), (h_words_highs, .inl (tc.2.1, 362, .inr (.inl u.2.1))), (h_words_lows, .inl (tc.2.1, 362, .inr (.inl u.2.2)))])) (rc16 v12 v13 v14 v15) [(h_, .inr (0, [.ref h_rules, .ref h_words, g_plainKnown, g_exampleKey])), (h_rules, .inr (6, [.ref h_rules_codes, g_rules_count])), (h_rules_codes, .inl (tc.1, 24, .inl c_rules_codes)), (h_words, .inr (10, [.ref h_words_costs, .ref h_words_highs, .ref h_words_lows])), (h_words_costs, .inl (tc.1, 362, .inl v13)), (h_words_highs, .inl (tc.2.1, 362, .inr (.inl v14))), (h_words_lows, .inl (tc.2.1, 362, .inr (.inl v15)))] 32 [(0, .ref h_), (1, .int p1), (2, .int x1), (4, .int v12)] []) (v12 : Int32) (v13 : (Nat → Int32)) (v14 : (Nat → Int64)) (v15 : (Nat → Int64)) : jo X 6 (0, 0) (jQV X (fun (u : (Nat → Int32) × (Nat → Int64) × (Nat → Int64)) => [(h_, .inr (0, [.ref h_rules, .ref h_words, g_plainKnown, g_exampleKey])), (h_rules, .inr (6, [.ref h_rules_codes, g_rules_count])), (h_rules_codes, .inl (tc.1, 24, .inl c_rules_codes)), (h_words, .inr (10, [.ref h_words_costs, .ref h_words_highs, .ref h_words_lows])), (h_words_costs, .inl (tc.1, 362, .inl u.1)), (h_words_highs, .inl (tc.2.1, 362, .inr (.inl u.2.1))), (h_words_lows, .inl (tc.2.1, 362, .inr (.inl u.2.2)))])) (bX0_putStartingTails_32 p1 x1 k11 rc16 v12 v13 v14 v15) [(h_, .inr (0, [.ref h_rules, .ref h_words, g_plainKnown, g_exampleKey])), (h_rules, .inr (6, [.ref h_rules_codes, g_rules_count])), (h_rules_codes, .inl (tc.1, 24, .inl c_rules_codes)), (h_words, .inr (10, [.ref h_words_costs, .ref h_words_highs, .ref h_words_lows])), (h_words_costs, .inl (tc.1, 362, .inl v13)), (h_words_highs, .inl (tc.2.1, 362, .inr (.inl v14))), (h_words_lows, .inl (tc.2.1, 362, .inr (.inl v15)))] 32 [(0, .ref h_), (1, .int p1), (2, .int x1), (4, .int v12)] [] := by
  unfold bX0_putStartingTails_32
  refine j_iload C d0_putStartingTails_32 3 rfl ?_
  refine j_if_lt C d0_putStartingTails_34 ?_ ?_
  · exact j_sub [] rfl (hk11 _ _ _)
  · refine j_iload C d0_putStartingTails_37 2 rfl ?_
    refine j_iload C d0_putStartingTails_38 3 rfl ?_
    refine j_callSI0 (As := [.int x1, .int v12]) C d0_putStartingTails_40 ms0_88 (kX6_symbolOf _ _ tc x1 v12) ⟨rfl, rfl, Nat.le_of_ble_eq_true rfl, Nat.le_of_ble_eq_true rfl⟩ rfl [] rfl rfl rfl (Nat.le_of_ble_eq_true rfl) (fun x17 => ?_)
    refine j_istore C d0_putStartingTails_43 (by decide) (lv' := [(5, .int x17), (0, .ref h_), (1, .int p1), (2, .int x1), (4, .int v12)]) rfl ?_
    refine j_aload C d0_putStartingTails_45 1 rfl ?_
    refine j_get C d0_putStartingTails_46 fl0_16 0 rfl rfl ?_
    refine j_iload C d0_putStartingTails_49 2 rfl ?_
    refine j_iload C d0_putStartingTails_50 4 rfl ?_
    refine j_callSI0 (As := [.int p1, .int v12]) C d0_putStartingTails_52 ms0_101 (kX0_startingTail _ _ tc p1 v12) ⟨rfl, rfl, Nat.le_of_ble_eq_true rfl, Nat.le_of_ble_eq_true rfl⟩ rfl [] rfl rfl rfl (Nat.le_of_ble_eq_true rfl) (fun x18 => ?_)
    refine j_const C d0_putStartingTails_55 ?_
    refine j_iload C d0_putStartingTails_57 0 rfl ?_
    refine j_iadd C d0_putStartingTails_59 ?_
    refine j_callVV3 (As := [.int x18, .int ((18 : Int32) + x17)]) C d0_putStartingTails_60 mv0_91 (kX10_putCopy _ _ tc 362 h_words h_words_costs h_words_highs h_words_lows v13 v14 v15 x18 ((18 : Int32) + x17)) ⟨rfl, rfl, Nat.le_of_ble_eq_true rfl, Nat.le_of_ble_eq_true rfl⟩ rfl 3 rfl [3, 4, 5, 6] rfl rfl rfl (Nat.le_of_ble_eq_true rfl) (fun o19 o20 o21 => [(h_, .inr (0, [.ref h_rules, .ref h_words, g_plainKnown, g_exampleKey])), (h_rules, .inr (6, [.ref h_rules_codes, g_rules_count])), (h_rules_codes, .inl (tc.1, 24, .inl c_rules_codes)), (h_words, .inr (10, [.ref h_words_costs, .ref h_words_highs, .ref h_words_lows])), (h_words_costs, .inl (tc.1, 362, .inl o19)), (h_words_highs, .inl (tc.2.1, 362, .inr (.inl o20))), (h_words_lows, .inl (tc.2.1, 362, .inr (.inl o21)))]) [(false, 0), (false, 1), (false, 2), (true, 0), (true, 1), (true, 2), (true, 3)] (fun _ => rfl) (by decide +kernel) (fun o19 o20 o21 => ?_)
    refine j_aload C d0_putStartingTails_63 1 rfl ?_
    refine j_get C d0_putStartingTails_64 fl0_16 0 rfl rfl ?_
    refine j_iload C d0_putStartingTails_67 2 rfl ?_
    refine j_iload C d0_putStartingTails_68 4 rfl ?_
    refine j_callSI0 (As := [.int p1, .int v12]) C d0_putStartingTails_70 ms0_101 (kX0_startingTail _ _ tc p1 v12) ⟨rfl, rfl, Nat.le_of_ble_eq_true rfl, Nat.le_of_ble_eq_true rfl⟩ rfl [] rfl rfl rfl (Nat.le_of_ble_eq_true rfl) (fun x22 => ?_)
    refine j_iload C d0_putStartingTails_73 2 rfl ?_
    refine j_iload C d0_putStartingTails_74 4 rfl ?_
    refine j_const C d0_putStartingTails_76 ?_
    refine j_iadd C d0_putStartingTails_77 ?_
    refine j_callSI0 (As := [.int p1, .int (v12 + (1 : Int32))]) C d0_putStartingTails_78 ms0_74 (kX0_plainTail _ _ tc p1 (v12 + (1 : Int32))) ⟨rfl, rfl, Nat.le_of_ble_eq_true rfl, Nat.le_of_ble_eq_true rfl⟩ rfl [] rfl rfl rfl (Nat.le_of_ble_eq_true rfl) (fun x23 => ?_)
    refine j_callVV3 (As := [.int x22, .int x23]) C d0_putStartingTails_81 mv0_95 (kX10_append _ _ tc 362 h_words h_words_costs h_words_highs h_words_lows o19 o20 o21 x22 x23) ⟨rfl, rfl, Nat.le_of_ble_eq_true rfl, Nat.le_of_ble_eq_true rfl⟩ rfl 3 rfl [3, 4, 5, 6] rfl rfl rfl (Nat.le_of_ble_eq_true rfl) (fun o24 o25 o26 => [(h_, .inr (0, [.ref h_rules, .ref h_words, g_plainKnown, g_exampleKey])), (h_rules, .inr (6, [.ref h_rules_codes, g_rules_count])), (h_rules_codes, .inl (tc.1, 24, .inl c_rules_codes)), (h_words, .inr (10, [.ref h_words_costs, .ref h_words_highs, .ref h_words_lows])), (h_words_costs, .inl (tc.1, 362, .inl o24)), (h_words_highs, .inl (tc.2.1, 362, .inr (.inl o25))), (h_words_lows, .inl (tc.2.1, 362, .inr (.inl o26)))]) [(false, 0), (false, 1), (false, 2), (true, 0), (true, 1), (true, 2), (true, 3)] (fun _ => rfl) (by decide +kernel) (fun o24 o25 o26 => ?_)
    refine j_aload C d0_putStartingTails_84 1 rfl ?_
    refine j_get C d0_putStartingTails_85 fl0_16 0 rfl rfl ?_
    refine j_const C d0_putStartingTails_88 ?_
    refine j_iload C d0_putStartingTails_89 0 rfl ?_
    refine j_iadd C d0_putStartingTails_91 ?_
    refine j_callVI0 (As := [.int ((0 : Int32) + x17)]) C d0_putStartingTails_92 mv0_104 (kX10_isEmpty _ _ tc 362 h_words h_words_costs (.ref h_words_highs) (.ref h_words_lows) o24 ((0 : Int32) + x17)) ⟨rfl, rfl, Nat.le_of_ble_eq_true rfl, Nat.le_of_ble_eq_true rfl⟩ rfl 3 rfl [3, 4] rfl rfl rfl (Nat.le_of_ble_eq_true rfl) (fun x27 => ?_)
    refine j_join3 120 (fun v28 v29 v30 => [(h_, .inr (0, [.ref h_rules, .ref h_words, g_plainKnown, g_exampleKey])), (h_rules, .inr (6, [.ref h_rules_codes, g_rules_count])), (h_rules_codes, .inl (tc.1, 24, .inl c_rules_codes)), (h_words, .inr (10, [.ref h_words_costs, .ref h_words_highs, .ref h_words_lows])), (h_words_costs, .inl (tc.1, 362, .inl v28)), (h_words_highs, .inl (tc.2.1, 362, .inr (.inl v29))), (h_words_lows, .inl (tc.2.1, 362, .inr (.inl v30)))]) (fun v28 v29 v30 => [(0, .ref h_), (1, .int p1), (2, .int x1), (4, .int v12)]) (fun v28 v29 v30 => []) (fun v28 v29 v30 => ?_) (fun k32 hk32 => ?_)
    · refine j_iincN C (fun x31 => [(4, .int x31), (0, .ref h_), (1, .int p1), (2, .int x1)]) d0_putStartingTails_120 3 rfl (by decide +kernel) (by decide) (fun _ => rfl) (fun x31 => ?_)
      refine j_goto C d0_putStartingTails_123 ?_
      exact j_sub [1, 2, 3, 0] rfl (hrc16 _ _ _ _)
    · refine j_if_eq C d0_putStartingTails_95 ?_ ?_
      · exact j_sub [1, 2, 3, 4] rfl (hk32 _ _ _)
      · refine j_aload C d0_putStartingTails_98 1 rfl ?_
        refine j_get C d0_putStartingTails_99 fl0_16 0 rfl rfl ?_
        refine j_iload C d0_putStartingTails_102 2 rfl ?_
        refine j_iload C d0_putStartingTails_103 4 rfl ?_
        refine j_callSI0 (As := [.int p1, .int v12]) C d0_putStartingTails_105 ms0_101 (kX0_startingTail _ _ tc p1 v12) ⟨rfl, rfl, Nat.le_of_ble_eq_true rfl, Nat.le_of_ble_eq_true rfl⟩ rfl [] rfl rfl rfl (Nat.le_of_ble_eq_true rfl) (fun x33 => ?_)
        refine j_iload C d0_putStartingTails_108 2 rfl ?_
        refine j_iload C d0_putStartingTails_109 4 rfl ?_
        refine j_const C d0_putStartingTails_111 ?_
        refine j_iadd C d0_putStartingTails_112 ?_
        refine j_callSI0 (As := [.int p1, .int (v12 + (1 : Int32))]) C d0_putStartingTails_113 ms0_101 (kX0_startingTail _ _ tc p1 (v12 + (1 : Int32))) ⟨rfl, rfl, Nat.le_of_ble_eq_true rfl, Nat.le_of_ble_eq_true rfl⟩ rfl [] rfl rfl rfl (Nat.le_of_ble_eq_true rfl) (fun x34 => ?_)
        refine j_callVI4 (As := [.int x33, .int x34]) C d0_putStartingTails_116 mv0_78 (kX10_lower _ _ tc 362 h_words h_words_costs h_words_highs h_words_lows o24 o25 o26 x33 x34) ⟨rfl, rfl, Nat.le_of_ble_eq_true rfl, Nat.le_of_ble_eq_true rfl⟩ rfl 3 rfl [3, 4, 5, 6] rfl rfl rfl (Nat.le_of_ble_eq_true rfl) (fun o35 o36 o37 => [(h_, .inr (0, [.ref h_rules, .ref h_words, g_plainKnown, g_exampleKey])), (h_rules, .inr (6, [.ref h_rules_codes, g_rules_count])), (h_rules_codes, .inl (tc.1, 24, .inl c_rules_codes)), (h_words, .inr (10, [.ref h_words_costs, .ref h_words_highs, .ref h_words_lows])), (h_words_costs, .inl (tc.1, 362, .inl o35)), (h_words_highs, .inl (tc.2.1, 362, .inr (.inl o36))), (h_words_lows, .inl (tc.2.1, 362, .inr (.inl o37)))]) [(false, 0), (false, 1), (false, 2), (true, 0), (true, 1), (true, 2), (true, 3)] (fun _ => rfl) (by decide +kernel) (fun o38 o35 o36 o37 => ?_)
        refine j_pop C d0_putStartingTails_119 rfl ?_
        exact j_sub [1, 2, 3, 4] rfl (hk32 _ _ _)

set_option maxHeartbeats 4000000 in
set_option maxRecDepth 100000 in
theorem kX0_putStartingTails (l : Launch) (D : va_G) (tc : jTC) (N : Nat) (h_ h_rules h_rules_codes h_words h_words_costs h_words_highs h_words_lows : Nat) (g_plainKnown g_exampleKey g_rules_count : Value) (c_rules_codes : (Nat → Int32)) (c_words_costs : (Nat → Int32)) (c_words_highs : (Nat → Int64)) (c_words_lows : (Nat → Int64)) (p1 : Int32) : ctV l D tc yX0_putStartingTails (Cond.code yX0_putStartingTails cX0_putStartingTails 6 none :: jtb) ({ frames := 2, cells := 0, slots := 0, locals := 49 } : Room) [.ref h_, .int p1] [(h_, .inr (0, [.ref h_rules, .ref h_words, g_plainKnown, g_exampleKey])), (h_rules, .inr (6, [.ref h_rules_codes, g_rules_count])), (h_rules_codes, .inl (tc.1, 24, .inl c_rules_codes)), (h_words, .inr (10, [.ref h_words_costs, .ref h_words_highs, .ref h_words_lows])), (h_words_costs, .inl (tc.1, 362, .inl c_words_costs)), (h_words_highs, .inl (tc.2.1, 362, .inr (.inl c_words_highs))), (h_words_lows, .inl (tc.2.1, 362, .inr (.inl c_words_lows)))] (fX0_putStartingTails N c_rules_codes c_words_costs c_words_highs c_words_lows p1) (fun (u : (Nat → Int32) × (Nat → Int64) × (Nat → Int64)) => [(h_, .inr (0, [.ref h_rules, .ref h_words, g_plainKnown, g_exampleKey])), (h_rules, .inr (6, [.ref h_rules_codes, g_rules_count])), (h_rules_codes, .inl (tc.1, 24, .inl c_rules_codes)), (h_words, .inr (10, [.ref h_words_costs, .ref h_words_highs, .ref h_words_lows])), (h_words_costs, .inl (tc.1, 362, .inl u.1)), (h_words_highs, .inl (tc.2.1, 362, .inr (.inl u.2.1))), (h_words_lows, .inl (tc.2.1, 362, .inr (.inl u.2.2)))]) := by
  refine ctV_of (lv0 := [(0, .ref h_), (1, .int p1)]) (by decide +kernel) (Nat.le_of_ble_eq_true rfl) rfl (fun X C => ?_)
  unfold fX0_putStartingTails
  refine j_aload C d0_putStartingTails_0 0 rfl ?_
  refine j_get C d0_putStartingTails_1 fl0_24 0 rfl rfl ?_
  refine j_get C d0_putStartingTails_4 fl0_47 1 rfl rfl ?_
  refine j_iload C d0_putStartingTails_7 1 rfl ?_
  refine j_iald C d0_putStartingTails_8 2 rfl (fun x1 => ?_)
  refine j_istore C d0_putStartingTails_9 (by decide) (lv' := [(2, .int x1), (0, .ref h_), (1, .int p1)]) rfl ?_
  refine j_iload C d0_putStartingTails_10 0 rfl ?_
  refine j_callSI0 (As := [.int x1]) C d0_putStartingTails_11 ms0_82 (kX6_lengthOf _ _ tc x1) ⟨rfl, rfl, Nat.le_of_ble_eq_true rfl, Nat.le_of_ble_eq_true rfl⟩ rfl [] rfl rfl rfl (Nat.le_of_ble_eq_true rfl) (fun x2 => ?_)
  refine j_istore C d0_putStartingTails_14 (by decide) (lv' := [(3, .int x2), (2, .int x1), (0, .ref h_), (1, .int p1)]) rfl ?_
  refine j_aload C d0_putStartingTails_15 2 rfl ?_
  refine j_get C d0_putStartingTails_16 fl0_16 0 rfl rfl ?_
  refine j_iload C d0_putStartingTails_19 3 rfl ?_
  refine j_iload C d0_putStartingTails_20 0 rfl ?_
  refine j_callSI0 (As := [.int p1, .int x2]) C d0_putStartingTails_21 ms0_101 (kX0_startingTail _ _ tc p1 x2) ⟨rfl, rfl, Nat.le_of_ble_eq_true rfl, Nat.le_of_ble_eq_true rfl⟩ rfl [] rfl rfl rfl (Nat.le_of_ble_eq_true rfl) (fun x3 => ?_)
  refine j_callVV3 (As := [.int x3]) C d0_putStartingTails_24 mv0_55 (kX10_putNone _ _ tc 362 h_words h_words_costs h_words_highs h_words_lows c_words_costs c_words_highs c_words_lows x3) ⟨rfl, rfl, Nat.le_of_ble_eq_true rfl, Nat.le_of_ble_eq_true rfl⟩ rfl 3 rfl [3, 4, 5, 6] rfl rfl rfl (Nat.le_of_ble_eq_true rfl) (fun o4 o5 o6 => [(h_, .inr (0, [.ref h_rules, .ref h_words, g_plainKnown, g_exampleKey])), (h_rules, .inr (6, [.ref h_rules_codes, g_rules_count])), (h_rules_codes, .inl (tc.1, 24, .inl c_rules_codes)), (h_words, .inr (10, [.ref h_words_costs, .ref h_words_highs, .ref h_words_lows])), (h_words_costs, .inl (tc.1, 362, .inl o4)), (h_words_highs, .inl (tc.2.1, 362, .inr (.inl o5))), (h_words_lows, .inl (tc.2.1, 362, .inr (.inl o6)))]) [(false, 0), (false, 1), (false, 2), (true, 0), (true, 1), (true, 2), (true, 3)] (fun _ => rfl) (by decide +kernel) (fun o4 o5 o6 => ?_)
  refine j_iload C d0_putStartingTails_27 0 rfl ?_
  refine j_const C d0_putStartingTails_28 ?_
  refine j_isub C d0_putStartingTails_29 ?_
  refine j_leti (fun x7 => ?_)
  refine j_istore C d0_putStartingTails_30 (by decide) (lv' := [(4, .int x7), (3, .int x2), (2, .int x1), (0, .ref h_), (1, .int p1)]) rfl ?_
  refine j_join3 126 (fun v8 v9 v10 => [(h_, .inr (0, [.ref h_rules, .ref h_words, g_plainKnown, g_exampleKey])), (h_rules, .inr (6, [.ref h_rules_codes, g_rules_count])), (h_rules_codes, .inl (tc.1, 24, .inl c_rules_codes)), (h_words, .inr (10, [.ref h_words_costs, .ref h_words_highs, .ref h_words_lows])), (h_words_costs, .inl (tc.1, 362, .inl v8)), (h_words_highs, .inl (tc.2.1, 362, .inr (.inl v9))), (h_words_lows, .inl (tc.2.1, 362, .inr (.inl v10)))]) (fun v8 v9 v10 => []) (fun v8 v9 v10 => []) (fun v8 v9 v10 => ?_) (fun k11 hk11 => ?_)
  · exact j_vret C d0_putStartingTails_126 rfl
  · exact j_sub [3, 4, 2, 0] rfl (j_loop4 (fun v12 v13 v14 v15 => [(h_, .inr (0, [.ref h_rules, .ref h_words, g_plainKnown, g_exampleKey])), (h_rules, .inr (6, [.ref h_rules_codes, g_rules_count])), (h_rules_codes, .inl (tc.1, 24, .inl c_rules_codes)), (h_words, .inr (10, [.ref h_words_costs, .ref h_words_highs, .ref h_words_lows])), (h_words_costs, .inl (tc.1, 362, .inl v13)), (h_words_highs, .inl (tc.2.1, 362, .inr (.inl v14))), (h_words_lows, .inl (tc.2.1, 362, .inr (.inl v15)))]) (fun v12 v13 v14 v15 => [(0, .ref h_), (1, .int p1), (2, .int x1), (4, .int v12)]) (fun rc16 hrc16 v12 v13 v14 v15 => wX0_putStartingTails_32 C h_ h_rules h_rules_codes h_words h_words_costs h_words_highs h_words_lows g_plainKnown g_exampleKey g_rules_count p1 c_rules_codes x1 k11 hk11 rc16 hrc16 v12 v13 v14 v15) N _ _ _ _)

