theorem d8_pairsIn_0 : jda cX8_pairsIn 0 0 1 := Or.inl ⟨0, by decide +kernel⟩
theorem d8_pairsIn_1 : jd cX8_pairsIn 1 (.getfield 15) 3 4 := by decide +kernel
theorem d8_pairsIn_4 : jdi cX8_pairsIn 4 1 5 := Or.inl ⟨1, by decide +kernel⟩
theorem d8_pairsIn_5 : jd cX8_pairsIn 5 (.iaload) 1 6 := by decide +kernel
theorem d8_pairsIn_6 : jda cX8_pairsIn 6 0 7 := Or.inl ⟨0, by decide +kernel⟩
theorem d8_pairsIn_7 : jd cX8_pairsIn 7 (.getfield 15) 3 10 := by decide +kernel
theorem d8_pairsIn_10 : jdi cX8_pairsIn 10 1 11 := Or.inl ⟨1, by decide +kernel⟩
theorem d8_pairsIn_11 : jd cX8_pairsIn 11 (.iaload) 1 12 := by decide +kernel
theorem d8_pairsIn_12 : jdk cX8_pairsIn 12 1 13 := Or.inl ⟨1, by decide +kernel⟩
theorem d8_pairsIn_13 : jd cX8_pairsIn 13 (.isub) 1 14 := by decide +kernel
theorem d8_pairsIn_14 : jd cX8_pairsIn 14 (.imul) 1 15 := by decide +kernel
theorem d8_pairsIn_15 : jdk cX8_pairsIn 15 2 16 := Or.inl ⟨2, by decide +kernel⟩
theorem d8_pairsIn_16 : jd cX8_pairsIn 16 (.idiv) 1 17 := by decide +kernel
theorem d8_pairsIn_17 : decode cX8_pairsIn 17 = .ok (.ireturn, 1) := by decide +kernel
set_option maxHeartbeats 4000000 in
set_option maxRecDepth 100000 in
theorem kX8_pairsIn (l : Launch) (D : va_G) (tc : jTC) (h_ h_possible : Nat) (g_rules g_sets g_select g_lowest g_conflicts : Value) (c_possible : (Nat → Int32)) (p1 : Int32) : ctI0 l D tc yX8_pairsIn (Cond.code yX8_pairsIn cX8_pairsIn 2 (some .int) :: jtb) ({ frames := 0, cells := 0, slots := 0, locals := 0 } : Room) [.ref h_, .int p1] [(h_, .inr (8, [g_rules, g_sets, g_select, .ref h_possible, g_lowest, g_conflicts])), (h_possible, .inl (tc.1, 72, .inl c_possible))] (fX8_pairsIn c_possible p1) := by
  refine ctI0_of (lv0 := [(0, .ref h_), (1, .int p1)]) (by decide +kernel) (Nat.le_of_ble_eq_true rfl) rfl (fun X C => ?_)
  unfold fX8_pairsIn
  refine j_aload C d8_pairsIn_0 0 rfl ?_
  refine j_get C d8_pairsIn_1 fl8_15 0 rfl rfl ?_
  refine j_iload C d8_pairsIn_4 1 rfl ?_
  refine j_iald C d8_pairsIn_5 1 rfl (fun x1 => ?_)
  refine j_aload C d8_pairsIn_6 0 rfl ?_
  refine j_get C d8_pairsIn_7 fl8_15 0 rfl rfl ?_
  refine j_iload C d8_pairsIn_10 1 rfl ?_
  refine j_iald C d8_pairsIn_11 1 rfl (fun x2 => ?_)
  refine j_const C d8_pairsIn_12 ?_
  refine j_isub C d8_pairsIn_13 ?_
  refine j_imul C d8_pairsIn_14 ?_
  refine j_const C d8_pairsIn_15 ?_
  refine j_idiv C d8_pairsIn_16 (by decide) ?_
  exact j_iret0 C d8_pairsIn_17

theorem d8_compute_0 : jdk cX8_compute 0 0 1 := Or.inl ⟨0, by decide +kernel⟩
theorem d8_compute_1 : jds cX8_compute 1 1 2 := Or.inl ⟨1, by decide +kernel⟩
theorem d8_compute_2 : jdi cX8_compute 2 1 3 := Or.inl ⟨1, by decide +kernel⟩
theorem d8_compute_3 : jdk cX8_compute 3 72 5 := Or.inr (Or.inl ⟨72, by decide +kernel⟩)
theorem d8_compute_5 : jdb cX8_compute 5 (.if_icmp .ge 16) 16 21 8 := by decide +kernel
theorem d8_compute_8 : jda cX8_compute 8 0 9 := Or.inl ⟨0, by decide +kernel⟩
theorem d8_compute_9 : jd cX8_compute 9 (.getfield 15) 3 12 := by decide +kernel
theorem d8_compute_12 : jdi cX8_compute 12 1 13 := Or.inl ⟨1, by decide +kernel⟩
theorem d8_compute_13 : jdk cX8_compute 13 0 14 := Or.inl ⟨0, by decide +kernel⟩
theorem d8_compute_14 : jd cX8_compute 14 (.iastore) 1 15 := by decide +kernel
theorem d8_compute_15 : jd cX8_compute 15 (.iinc 1 1) 3 18 := by decide +kernel
theorem d8_compute_18 : jdb cX8_compute 18 (.goto (-16)) (-16) 2 21 := by decide +kernel
theorem d8_compute_21 : jda cX8_compute 21 0 22 := Or.inl ⟨0, by decide +kernel⟩
theorem d8_compute_22 : jd cX8_compute 22 (.getfield 21) 3 25 := by decide +kernel
theorem d8_compute_25 : jd cX8_compute 25 (.getfield 29) 3 28 := by decide +kernel
theorem d8_compute_28 : jdk cX8_compute 28 1 29 := Or.inl ⟨1, by decide +kernel⟩
theorem d8_compute_29 : jd cX8_compute 29 (.isub) 1 30 := by decide +kernel
theorem d8_compute_30 : jds cX8_compute 30 1 31 := Or.inl ⟨1, by decide +kernel⟩
theorem d8_compute_31 : jdi cX8_compute 31 1 32 := Or.inl ⟨1, by decide +kernel⟩
theorem d8_compute_32 : jdb cX8_compute 32 (.ifCond .lt 33) 33 65 35 := by decide +kernel
theorem d8_compute_35 : jda cX8_compute 35 0 36 := Or.inl ⟨0, by decide +kernel⟩
theorem d8_compute_36 : jd cX8_compute 36 (.getfield 9) 3 39 := by decide +kernel
theorem d8_compute_39 : jdi cX8_compute 39 1 40 := Or.inl ⟨1, by decide +kernel⟩
theorem d8_compute_40 : jda cX8_compute 40 0 41 := Or.inl ⟨0, by decide +kernel⟩
theorem d8_compute_41 : jda cX8_compute 41 0 42 := Or.inl ⟨0, by decide +kernel⟩
theorem d8_compute_42 : jd cX8_compute 42 (.getfield 21) 3 45 := by decide +kernel
theorem d8_compute_45 : jd cX8_compute 45 (.getfield 35) 3 48 := by decide +kernel
theorem d8_compute_48 : jdi cX8_compute 48 1 49 := Or.inl ⟨1, by decide +kernel⟩
theorem d8_compute_49 : jd cX8_compute 49 (.iaload) 1 50 := by decide +kernel
theorem d8_compute_50 : jd cX8_compute 50 (.invokevirtual 38) 3 53 := by decide +kernel
theorem d8_compute_53 : jd cX8_compute 53 (.iastore) 1 54 := by decide +kernel
theorem d8_compute_54 : jda cX8_compute 54 0 55 := Or.inl ⟨0, by decide +kernel⟩
theorem d8_compute_55 : jdi cX8_compute 55 1 56 := Or.inl ⟨1, by decide +kernel⟩
theorem d8_compute_56 : jd cX8_compute 56 (.invokevirtual 42) 3 59 := by decide +kernel
theorem d8_compute_59 : jd cX8_compute 59 (.iinc 1 (-1)) 3 62 := by decide +kernel
theorem d8_compute_62 : jdb cX8_compute 62 (.goto (-31)) (-31) 31 65 := by decide +kernel
theorem d8_compute_65 : jda cX8_compute 65 0 66 := Or.inl ⟨0, by decide +kernel⟩
theorem d8_compute_66 : jdk cX8_compute 66 0 67 := Or.inl ⟨0, by decide +kernel⟩
theorem d8_compute_67 : jd cX8_compute 67 (.putfield 46) 3 70 := by decide +kernel
theorem d8_compute_70 : jdk cX8_compute 70 0 71 := Or.inl ⟨0, by decide +kernel⟩
theorem d8_compute_71 : jds cX8_compute 71 1 72 := Or.inl ⟨1, by decide +kernel⟩
theorem d8_compute_72 : jdi cX8_compute 72 1 73 := Or.inl ⟨1, by decide +kernel⟩
theorem d8_compute_73 : jdk cX8_compute 73 72 75 := Or.inr (Or.inl ⟨72, by decide +kernel⟩)
theorem d8_compute_75 : jdb cX8_compute 75 (.if_icmp .ge 23) 23 98 78 := by decide +kernel
theorem d8_compute_78 : jda cX8_compute 78 0 79 := Or.inl ⟨0, by decide +kernel⟩
theorem d8_compute_79 : jd cX8_compute 79 (.dup) 1 80 := by decide +kernel
theorem d8_compute_80 : jd cX8_compute 80 (.getfield 46) 3 83 := by decide +kernel
theorem d8_compute_83 : jda cX8_compute 83 0 84 := Or.inl ⟨0, by decide +kernel⟩
theorem d8_compute_84 : jdi cX8_compute 84 1 85 := Or.inl ⟨1, by decide +kernel⟩
theorem d8_compute_85 : jd cX8_compute 85 (.invokevirtual 49) 3 88 := by decide +kernel
theorem d8_compute_88 : jd cX8_compute 88 (.iadd) 1 89 := by decide +kernel
theorem d8_compute_89 : jd cX8_compute 89 (.putfield 46) 3 92 := by decide +kernel
theorem d8_compute_92 : jd cX8_compute 92 (.iinc 1 1) 3 95 := by decide +kernel
theorem d8_compute_95 : jdb cX8_compute 95 (.goto (-23)) (-23) 72 98 := by decide +kernel
theorem d8_compute_98 : decode cX8_compute 98 = .ok (.return_, 1) := by decide +kernel
set_option maxHeartbeats 4000000 in
set_option maxRecDepth 100000 in
theorem wX8_compute_72 {X : jC} {tc : jTC} (C : jx X cX8_compute 2 RX8 none tc ({ frames := 4, cells := 0, slots := 0, locals := 88 } : Room)) (h_ h_rules h_rules_codes h_sets h_sets_first h_sets_follow h_select h_possible h_lowest : Nat) (g_sets_begins : Value) (c_rules_codes : (Nat → Int32)) (c_rules_count : Int32) (c_sets_nullable : Int32) (c_sets_first : (Nat → Int32)) (c_sets_follow : (Nat → Int32)) (v3 : (Nat → Int32)) (v4 : (Nat → Int32)) (v5 : (Nat → Int32)) (k7 : (Int32 → Option ((Nat → Int32) × (Nat → Int32) × (Nat → Int32) × Int32))) (hk7 : ∀ (v14 : Int32), jo X 2 (0, 0) (jQV X (fun (u : (Nat → Int32) × (Nat → Int32) × (Nat → Int32) × Int32) => [(h_, .inr (8, [.ref h_rules, .ref h_sets, .ref h_select, .ref h_possible, .ref h_lowest, .int u.2.2.2])), (h_rules, .inr (6, [.ref h_rules_codes, .int c_rules_count])), (h_rules_codes, .inl (tc.1, 24, .inl c_rules_codes)), (h_sets, .inr (7, [.int c_sets_nullable, .ref h_sets_first, .ref h_sets_follow, g_sets_begins])), (h_sets_first, .inl (tc.1, 8, .inl c_sets_first)), (h_sets_follow, .inl (tc.1, 8, .inl c_sets_follow)), (h_select, .inl (tc.1, 24, .inl u.1)), (h_possible, .inl (tc.1, 72, .inl u.2.1)), (h_lowest, .inl (tc.1, 72, .inl u.2.2.1))])) (k7 v14) [(h_, .inr (8, [.ref h_rules, .ref h_sets, .ref h_select, .ref h_possible, .ref h_lowest, .int v14])), (h_rules, .inr (6, [.ref h_rules_codes, .int c_rules_count])), (h_rules_codes, .inl (tc.1, 24, .inl c_rules_codes)), (h_sets, .inr (7, [.int c_sets_nullable, .ref h_sets_first, .ref h_sets_follow, g_sets_begins])), (h_sets_first, .inl (tc.1, 8, .inl c_sets_first)), (h_sets_follow, .inl (tc.1, 8, .inl c_sets_follow)), (h_select, .inl (tc.1, 24, .inl v3)), (h_possible, .inl (tc.1, 72, .inl v4)), (h_lowest, .inl (tc.1, 72, .inl v5))] 98 [] []) (rc10 : Int32 → Int32 → Option ((Nat → Int32) × (Nat → Int32) × (Nat → Int32) × Int32)) (hrc10 : ∀ (v8 : Int32) (v9 : Int32), jo X 2 (0, 0) (jQV X (fun (u : (Nat → Int32) × (Nat → Int32) × (Nat → Int32) × Int32) => [(h_, .inr (8, [.ref h_rules, .ref h_sets, .ref h_select, .ref h_possible, .ref h_lowest, .int u.2.2.2])), (h_rules, .inr (6, [.ref h_rules_codes, .int c_rules_count])), (h_rules_codes, .inl (tc.1, 24, .inl c_rules_codes)), (h_sets, .inr (7, [.int c_sets_nullable, .ref h_sets_first, .ref h_sets_follow, g_sets_begins])), (h_sets_first, .inl (tc.1, 8, .inl c_sets_first)), (h_sets_follow, .inl (tc.1, 8, .inl c_sets_follow)), (h_select, .inl (tc.1, 24, .inl u.1)), (h_possible, .inl (tc.1, 72, .inl u.2.1)), (h_lowest, .inl (tc.1, 72, .inl u.2.2.1))])) (rc10 v8 v9) [(h_, .inr (8, [.ref h_rules, .ref h_sets, .ref h_select, .ref h_possible, .ref h_lowest, .int v9])), (h_rules, .inr (6, [.ref h_rules_codes, .int c_rules_count])), (h_rules_codes, .inl (tc.1, 24, .inl c_rules_codes)), (h_sets, .inr (7, [.int c_sets_nullable, .ref h_sets_first, .ref h_sets_follow, g_sets_begins])), (h_sets_first, .inl (tc.1, 8, .inl c_sets_first)), (h_sets_follow, .inl (tc.1, 8, .inl c_sets_follow)), (h_select, .inl (tc.1, 24, .inl v3)), (h_possible, .inl (tc.1, 72, .inl v4)), (h_lowest, .inl (tc.1, 72, .inl v5))] 72 [(0, .ref h_), (1, .int v8)] []) (v8 : Int32) (v9 : Int32) : jo X 2 (0, 0) (jQV X (fun (u : (Nat → Int32) × (Nat → Int32) × (Nat → Int32) × Int32) => [(h_, .inr (8, [.ref h_rules, .ref h_sets, .ref h_select, .ref h_possible, .ref h_lowest, .int u.2.2.2])), (h_rules, .inr (6, [.ref h_rules_codes, .int c_rules_count])), (h_rules_codes, .inl (tc.1, 24, .inl c_rules_codes)), (h_sets, .inr (7, [.int c_sets_nullable, .ref h_sets_first, .ref h_sets_follow, g_sets_begins])), (h_sets_first, .inl (tc.1, 8, .inl c_sets_first)), (h_sets_follow, .inl (tc.1, 8, .inl c_sets_follow)), (h_select, .inl (tc.1, 24, .inl u.1)), (h_possible, .inl (tc.1, 72, .inl u.2.1)), (h_lowest, .inl (tc.1, 72, .inl u.2.2.1))])) (bX8_compute_72 v4 k7 rc10 v8 v9) [(h_, .inr (8, [.ref h_rules, .ref h_sets, .ref h_select, .ref h_possible, .ref h_lowest, .int v9])), (h_rules, .inr (6, [.ref h_rules_codes, .int c_rules_count])), (h_rules_codes, .inl (tc.1, 24, .inl c_rules_codes)), (h_sets, .inr (7, [.int c_sets_nullable, .ref h_sets_first, .ref h_sets_follow, g_sets_begins])), (h_sets_first, .inl (tc.1, 8, .inl c_sets_first)), (h_sets_follow, .inl (tc.1, 8, .inl c_sets_follow)), (h_select, .inl (tc.1, 24, .inl v3)), (h_possible, .inl (tc.1, 72, .inl v4)), (h_lowest, .inl (tc.1, 72, .inl v5))] 72 [(0, .ref h_), (1, .int v8)] [] := by
  unfold bX8_compute_72
  refine j_iload C d8_compute_72 1 rfl ?_
  refine j_const C d8_compute_73 ?_
  refine j_icmp_ge C d8_compute_75 ?_ ?_
  · exact j_sub [] rfl (hk7 _)
  · refine j_aload C d8_compute_78 0 rfl ?_
    refine j_dup C d8_compute_79 rfl ?_
    refine j_get C d8_compute_80 fl8_46 0 rfl rfl ?_
    refine j_aload C d8_compute_83 0 rfl ?_
    refine j_iload C d8_compute_84 1 rfl ?_
    refine j_callVI0 (As := [.int v8]) C d8_compute_85 mv8_49 (kX8_pairsIn _ _ tc h_ h_possible (.ref h_rules) (.ref h_sets) (.ref h_select) (.ref h_lowest) (.int v9) v4 v8) ⟨rfl, rfl, Nat.le_of_ble_eq_true rfl, Nat.le_of_ble_eq_true rfl⟩ rfl 0 rfl [0, 7] rfl rfl rfl (Nat.le_of_ble_eq_true rfl) (fun x11 => ?_)
    refine j_iadd C d8_compute_88 ?_
    refine j_leti (fun x12 => ?_)
    refine j_putq C d8_compute_89 fq8_46 0 rfl rfl rfl (Nat.le_of_ble_eq_true rfl) (ws' := [(h_, .inr (8, [.ref h_rules, .ref h_sets, .ref h_select, .ref h_possible, .ref h_lowest, .int x12])), (h_rules, .inr (6, [.ref h_rules_codes, .int c_rules_count])), (h_rules_codes, .inl (tc.1, 24, .inl c_rules_codes)), (h_sets, .inr (7, [.int c_sets_nullable, .ref h_sets_first, .ref h_sets_follow, g_sets_begins])), (h_sets_first, .inl (tc.1, 8, .inl c_sets_first)), (h_sets_follow, .inl (tc.1, 8, .inl c_sets_follow)), (h_select, .inl (tc.1, 24, .inl v3)), (h_possible, .inl (tc.1, 72, .inl v4)), (h_lowest, .inl (tc.1, 72, .inl v5))]) rfl ?_
    refine j_iincN C (fun x13 => [(1, .int x13), (0, .ref h_)]) d8_compute_92 1 rfl (by decide +kernel) (by decide) (fun _ => rfl) (fun x13 => ?_)
    refine j_goto C d8_compute_95 ?_
    exact j_sub [1, 0] rfl (hrc10 _ _)

set_option maxHeartbeats 4000000 in
set_option maxRecDepth 100000 in
theorem wX8_compute_31 {X : jC} {tc : jTC} (C : jx X cX8_compute 2 RX8 none tc ({ frames := 4, cells := 0, slots := 0, locals := 88 } : Room)) (N : Nat) (h_ h_rules h_rules_codes h_sets h_sets_first h_sets_follow h_select h_possible h_lowest : Nat) (g_sets_begins : Value) (c_rules_codes : (Nat → Int32)) (c_rules_count : Int32) (c_sets_nullable : Int32) (c_sets_first : (Nat → Int32)) (c_sets_follow : (Nat → Int32)) (c_conflicts : Int32) (k15 : ((Nat → Int32) → (Nat → Int32) → (Nat → Int32) → Option ((Nat → Int32) × (Nat → Int32) × (Nat → Int32) × Int32))) (hk15 : ∀ (v27 : (Nat → Int32)) (v28 : (Nat → Int32)) (v29 : (Nat → Int32)), jo X 2 (0, 0) (jQV X (fun (u : (Nat → Int32) × (Nat → Int32) × (Nat → Int32) × Int32) => [(h_, .inr (8, [.ref h_rules, .ref h_sets, .ref h_select, .ref h_possible, .ref h_lowest, .int u.2.2.2])), (h_rules, .inr (6, [.ref h_rules_codes, .int c_rules_count])), (h_rules_codes, .inl (tc.1, 24, .inl c_rules_codes)), (h_sets, .inr (7, [.int c_sets_nullable, .ref h_sets_first, .ref h_sets_follow, g_sets_begins])), (h_sets_first, .inl (tc.1, 8, .inl c_sets_first)), (h_sets_follow, .inl (tc.1, 8, .inl c_sets_follow)), (h_select, .inl (tc.1, 24, .inl u.1)), (h_possible, .inl (tc.1, 72, .inl u.2.1)), (h_lowest, .inl (tc.1, 72, .inl u.2.2.1))])) (k15 v27 v28 v29) [(h_, .inr (8, [.ref h_rules, .ref h_sets, .ref h_select, .ref h_possible, .ref h_lowest, .int c_conflicts])), (h_rules, .inr (6, [.ref h_rules_codes, .int c_rules_count])), (h_rules_codes, .inl (tc.1, 24, .inl c_rules_codes)), (h_sets, .inr (7, [.int c_sets_nullable, .ref h_sets_first, .ref h_sets_follow, g_sets_begins])), (h_sets_first, .inl (tc.1, 8, .inl c_sets_first)), (h_sets_follow, .inl (tc.1, 8, .inl c_sets_follow)), (h_select, .inl (tc.1, 24, .inl v27)), (h_possible, .inl (tc.1, 72, .inl v28)), (h_lowest, .inl (tc.1, 72, .inl v29))] 65 [(0, .ref h_)] []) (rc20 : Int32 → (Nat → Int32) → (Nat → Int32) → (Nat → Int32) → Option ((Nat → Int32) × (Nat → Int32) × (Nat → Int32) × Int32)) (hrc20 : ∀ (v16 : Int32) (v17 : (Nat → Int32)) (v18 : (Nat → Int32)) (v19 : (Nat → Int32)), jo X 2 (0, 0) (jQV X (fun (u : (Nat → Int32) × (Nat → Int32) × (Nat → Int32) × Int32) => [(h_, .inr (8, [.ref h_rules, .ref h_sets, .ref h_select, .ref h_possible, .ref h_lowest, .int u.2.2.2])), (h_rules, .inr (6, [.ref h_rules_codes, .int c_rules_count])), (h_rules_codes, .inl (tc.1, 24, .inl c_rules_codes)), (h_sets, .inr (7, [.int c_sets_nullable, .ref h_sets_first, .ref h_sets_follow, g_sets_begins])), (h_sets_first, .inl (tc.1, 8, .inl c_sets_first)), (h_sets_follow, .inl (tc.1, 8, .inl c_sets_follow)), (h_select, .inl (tc.1, 24, .inl u.1)), (h_possible, .inl (tc.1, 72, .inl u.2.1)), (h_lowest, .inl (tc.1, 72, .inl u.2.2.1))])) (rc20 v16 v17 v18 v19) [(h_, .inr (8, [.ref h_rules, .ref h_sets, .ref h_select, .ref h_possible, .ref h_lowest, .int c_conflicts])), (h_rules, .inr (6, [.ref h_rules_codes, .int c_rules_count])), (h_rules_codes, .inl (tc.1, 24, .inl c_rules_codes)), (h_sets, .inr (7, [.int c_sets_nullable, .ref h_sets_first, .ref h_sets_follow, g_sets_begins])), (h_sets_first, .inl (tc.1, 8, .inl c_sets_first)), (h_sets_follow, .inl (tc.1, 8, .inl c_sets_follow)), (h_select, .inl (tc.1, 24, .inl v17)), (h_possible, .inl (tc.1, 72, .inl v18)), (h_lowest, .inl (tc.1, 72, .inl v19))] 31 [(0, .ref h_), (1, .int v16)] []) (v16 : Int32) (v17 : (Nat → Int32)) (v18 : (Nat → Int32)) (v19 : (Nat → Int32)) : jo X 2 (0, 0) (jQV X (fun (u : (Nat → Int32) × (Nat → Int32) × (Nat → Int32) × Int32) => [(h_, .inr (8, [.ref h_rules, .ref h_sets, .ref h_select, .ref h_possible, .ref h_lowest, .int u.2.2.2])), (h_rules, .inr (6, [.ref h_rules_codes, .int c_rules_count])), (h_rules_codes, .inl (tc.1, 24, .inl c_rules_codes)), (h_sets, .inr (7, [.int c_sets_nullable, .ref h_sets_first, .ref h_sets_follow, g_sets_begins])), (h_sets_first, .inl (tc.1, 8, .inl c_sets_first)), (h_sets_follow, .inl (tc.1, 8, .inl c_sets_follow)), (h_select, .inl (tc.1, 24, .inl u.1)), (h_possible, .inl (tc.1, 72, .inl u.2.1)), (h_lowest, .inl (tc.1, 72, .inl u.2.2.1))])) (bX8_compute_31 N c_rules_codes c_sets_nullable c_sets_first c_sets_follow k15 rc20 v16 v17 v18 v19) [(h_, .inr (8, [.ref h_rules, .ref h_sets, .ref h_select, .ref h_possible, .ref h_lowest, .int c_conflicts])), (h_rules, .inr (6, [.ref h_rules_codes, .int c_rules_count])), (h_rules_codes, .inl (tc.1, 24, .inl c_rules_codes)), (h_sets, .inr (7, [.int c_sets_nullable, .ref h_sets_first, .ref h_sets_follow, g_sets_begins])), (h_sets_first, .inl (tc.1, 8, .inl c_sets_first)), (h_sets_follow, .inl (tc.1, 8, .inl c_sets_follow)), (h_select, .inl (tc.1, 24, .inl v17)), (h_possible, .inl (tc.1, 72, .inl v18)), (h_lowest, .inl (tc.1, 72, .inl v19))] 31 [(0, .ref h_), (1, .int v16)] [] := by
  unfold bX8_compute_31
  refine j_iload C d8_compute_31 1 rfl ?_
  refine j_if_lt C d8_compute_32 ?_ ?_
  · exact j_sub [0] rfl (hk15 _ _ _)
  · refine j_aload C d8_compute_35 0 rfl ?_
    refine j_get C d8_compute_36 fl8_9 0 rfl rfl ?_
    refine j_iload C d8_compute_39 1 rfl ?_
    refine j_aload C d8_compute_40 0 rfl ?_
    refine j_aload C d8_compute_41 0 rfl ?_
    refine j_get C d8_compute_42 fl8_21 0 rfl rfl ?_
    refine j_get C d8_compute_45 fl8_35 1 rfl rfl ?_
    refine j_iload C d8_compute_48 1 rfl ?_
    refine j_iald C d8_compute_49 2 rfl (fun x21 => ?_)
    refine j_callVI0 (As := [.int x21]) C d8_compute_50 mv8_38 (kX8_selectOf _ _ tc N h_ h_sets h_sets_first h_sets_follow (.ref h_rules) (.ref h_select) (.ref h_possible) (.ref h_lowest) (.int c_conflicts) g_sets_begins c_sets_nullable c_sets_first c_sets_follow x21) ⟨rfl, rfl, Nat.le_of_ble_eq_true rfl, Nat.le_of_ble_eq_true rfl⟩ rfl 0 rfl [0, 3, 4, 5] rfl rfl rfl (Nat.le_of_ble_eq_true rfl) (fun x22 => ?_)
    refine j_iast C (fun f23 => [(h_, .inr (8, [.ref h_rules, .ref h_sets, .ref h_select, .ref h_possible, .ref h_lowest, .int c_conflicts])), (h_rules, .inr (6, [.ref h_rules_codes, .int c_rules_count])), (h_rules_codes, .inl (tc.1, 24, .inl c_rules_codes)), (h_sets, .inr (7, [.int c_sets_nullable, .ref h_sets_first, .ref h_sets_follow, g_sets_begins])), (h_sets_first, .inl (tc.1, 8, .inl c_sets_first)), (h_sets_follow, .inl (tc.1, 8, .inl c_sets_follow)), (h_select, .inl (tc.1, 24, .inl f23)), (h_possible, .inl (tc.1, 72, .inl v18)), (h_lowest, .inl (tc.1, 72, .inl v19))]) d8_compute_53 6 rfl (fun _ => rfl) (fun f23 => ?_)
    refine j_aload C d8_compute_54 0 rfl ?_
    refine j_iload C d8_compute_55 1 rfl ?_
    refine j_callVV2 (As := [.int v16]) C d8_compute_56 mv8_42 (kX8_enter _ _ tc N h_ h_rules h_rules_codes h_select h_possible h_lowest (.ref h_sets) (.int c_conflicts) (.int c_rules_count) c_rules_codes f23 v18 v19 v16) ⟨rfl, rfl, Nat.le_of_ble_eq_true rfl, Nat.le_of_ble_eq_true rfl⟩ rfl 0 rfl [0, 1, 2, 6, 7, 8] rfl rfl rfl (Nat.le_of_ble_eq_true rfl) (fun o24 o25 => [(h_, .inr (8, [.ref h_rules, .ref h_sets, .ref h_select, .ref h_possible, .ref h_lowest, .int c_conflicts])), (h_rules, .inr (6, [.ref h_rules_codes, .int c_rules_count])), (h_rules_codes, .inl (tc.1, 24, .inl c_rules_codes)), (h_sets, .inr (7, [.int c_sets_nullable, .ref h_sets_first, .ref h_sets_follow, g_sets_begins])), (h_sets_first, .inl (tc.1, 8, .inl c_sets_first)), (h_sets_follow, .inl (tc.1, 8, .inl c_sets_follow)), (h_select, .inl (tc.1, 24, .inl f23)), (h_possible, .inl (tc.1, 72, .inl o24)), (h_lowest, .inl (tc.1, 72, .inl o25))]) (fun _ => rfl) (fun _ => rfl) (fun _ _ => rfl) (fun o24 o25 => ?_)
    refine j_iincN C (fun x26 => [(1, .int x26), (0, .ref h_)]) d8_compute_59 1 rfl (by decide +kernel) (by decide) (fun _ => rfl) (fun x26 => ?_)
    refine j_goto C d8_compute_62 ?_
    exact j_sub [1, 0] rfl (hrc20 _ _ _ _)

set_option maxHeartbeats 4000000 in
set_option maxRecDepth 100000 in
theorem wX8_compute_2 {X : jC} {tc : jTC} (C : jx X cX8_compute 2 RX8 none tc ({ frames := 4, cells := 0, slots := 0, locals := 88 } : Room)) (h_ h_rules h_rules_codes h_sets h_sets_first h_sets_follow h_select h_possible h_lowest : Nat) (g_sets_begins : Value) (c_rules_codes : (Nat → Int32)) (c_rules_count : Int32) (c_sets_nullable : Int32) (c_sets_first : (Nat → Int32)) (c_sets_follow : (Nat → Int32)) (c_select : (Nat → Int32)) (c_lowest : (Nat → Int32)) (c_conflicts : Int32) (k30 : ((Nat → Int32) → Option ((Nat → Int32) × (Nat → Int32) × (Nat → Int32) × Int32))) (hk30 : ∀ (v36 : (Nat → Int32)), jo X 2 (0, 0) (jQV X (fun (u : (Nat → Int32) × (Nat → Int32) × (Nat → Int32) × Int32) => [(h_, .inr (8, [.ref h_rules, .ref h_sets, .ref h_select, .ref h_possible, .ref h_lowest, .int u.2.2.2])), (h_rules, .inr (6, [.ref h_rules_codes, .int c_rules_count])), (h_rules_codes, .inl (tc.1, 24, .inl c_rules_codes)), (h_sets, .inr (7, [.int c_sets_nullable, .ref h_sets_first, .ref h_sets_follow, g_sets_begins])), (h_sets_first, .inl (tc.1, 8, .inl c_sets_first)), (h_sets_follow, .inl (tc.1, 8, .inl c_sets_follow)), (h_select, .inl (tc.1, 24, .inl u.1)), (h_possible, .inl (tc.1, 72, .inl u.2.1)), (h_lowest, .inl (tc.1, 72, .inl u.2.2.1))])) (k30 v36) [(h_, .inr (8, [.ref h_rules, .ref h_sets, .ref h_select, .ref h_possible, .ref h_lowest, .int c_conflicts])), (h_rules, .inr (6, [.ref h_rules_codes, .int c_rules_count])), (h_rules_codes, .inl (tc.1, 24, .inl c_rules_codes)), (h_sets, .inr (7, [.int c_sets_nullable, .ref h_sets_first, .ref h_sets_follow, g_sets_begins])), (h_sets_first, .inl (tc.1, 8, .inl c_sets_first)), (h_sets_follow, .inl (tc.1, 8, .inl c_sets_follow)), (h_select, .inl (tc.1, 24, .inl c_select)), (h_possible, .inl (tc.1, 72, .inl v36)), (h_lowest, .inl (tc.1, 72, .inl c_lowest))] 21 [(0, .ref h_)] []) (rc33 : Int32 → (Nat → Int32) → Option ((Nat → Int32) × (Nat → Int32) × (Nat → Int32) × Int32)) (hrc33 : ∀ (v31 : Int32) (v32 : (Nat → Int32)), jo X 2 (0, 0) (jQV X (fun (u : (Nat → Int32) × (Nat → Int32) × (Nat → Int32) × Int32) => [(h_, .inr (8, [.ref h_rules, .ref h_sets, .ref h_select, .ref h_possible, .ref h_lowest, .int u.2.2.2])), (h_rules, .inr (6, [.ref h_rules_codes, .int c_rules_count])), (h_rules_codes, .inl (tc.1, 24, .inl c_rules_codes)), (h_sets, .inr (7, [.int c_sets_nullable, .ref h_sets_first, .ref h_sets_follow, g_sets_begins])), (h_sets_first, .inl (tc.1, 8, .inl c_sets_first)), (h_sets_follow, .inl (tc.1, 8, .inl c_sets_follow)), (h_select, .inl (tc.1, 24, .inl u.1)), (h_possible, .inl (tc.1, 72, .inl u.2.1)), (h_lowest, .inl (tc.1, 72, .inl u.2.2.1))])) (rc33 v31 v32) [(h_, .inr (8, [.ref h_rules, .ref h_sets, .ref h_select, .ref h_possible, .ref h_lowest, .int c_conflicts])), (h_rules, .inr (6, [.ref h_rules_codes, .int c_rules_count])), (h_rules_codes, .inl (tc.1, 24, .inl c_rules_codes)), (h_sets, .inr (7, [.int c_sets_nullable, .ref h_sets_first, .ref h_sets_follow, g_sets_begins])), (h_sets_first, .inl (tc.1, 8, .inl c_sets_first)), (h_sets_follow, .inl (tc.1, 8, .inl c_sets_follow)), (h_select, .inl (tc.1, 24, .inl c_select)), (h_possible, .inl (tc.1, 72, .inl v32)), (h_lowest, .inl (tc.1, 72, .inl c_lowest))] 2 [(0, .ref h_), (1, .int v31)] []) (v31 : Int32) (v32 : (Nat → Int32)) : jo X 2 (0, 0) (jQV X (fun (u : (Nat → Int32) × (Nat → Int32) × (Nat → Int32) × Int32) => [(h_, .inr (8, [.ref h_rules, .ref h_sets, .ref h_select, .ref h_possible, .ref h_lowest, .int u.2.2.2])), (h_rules, .inr (6, [.ref h_rules_codes, .int c_rules_count])), (h_rules_codes, .inl (tc.1, 24, .inl c_rules_codes)), (h_sets, .inr (7, [.int c_sets_nullable, .ref h_sets_first, .ref h_sets_follow, g_sets_begins])), (h_sets_first, .inl (tc.1, 8, .inl c_sets_first)), (h_sets_follow, .inl (tc.1, 8, .inl c_sets_follow)), (h_select, .inl (tc.1, 24, .inl u.1)), (h_possible, .inl (tc.1, 72, .inl u.2.1)), (h_lowest, .inl (tc.1, 72, .inl u.2.2.1))])) (bX8_compute_2 k30 rc33 v31 v32) [(h_, .inr (8, [.ref h_rules, .ref h_sets, .ref h_select, .ref h_possible, .ref h_lowest, .int c_conflicts])), (h_rules, .inr (6, [.ref h_rules_codes, .int c_rules_count])), (h_rules_codes, .inl (tc.1, 24, .inl c_rules_codes)), (h_sets, .inr (7, [.int c_sets_nullable, .ref h_sets_first, .ref h_sets_follow, g_sets_begins])), (h_sets_first, .inl (tc.1, 8, .inl c_sets_first)), (h_sets_follow, .inl (tc.1, 8, .inl c_sets_follow)), (h_select, .inl (tc.1, 24, .inl c_select)), (h_possible, .inl (tc.1, 72, .inl v32)), (h_lowest, .inl (tc.1, 72, .inl c_lowest))] 2 [(0, .ref h_), (1, .int v31)] [] := by
  unfold bX8_compute_2
  refine j_iload C d8_compute_2 1 rfl ?_
  refine j_const C d8_compute_3 ?_
  refine j_icmp_ge C d8_compute_5 ?_ ?_
  · exact j_sub [0] rfl (hk30 _)
  · refine j_aload C d8_compute_8 0 rfl ?_
    refine j_get C d8_compute_9 fl8_15 0 rfl rfl ?_
    refine j_iload C d8_compute_12 1 rfl ?_
    refine j_const C d8_compute_13 ?_
    refine j_iast C (fun f34 => [(h_, .inr (8, [.ref h_rules, .ref h_sets, .ref h_select, .ref h_possible, .ref h_lowest, .int c_conflicts])), (h_rules, .inr (6, [.ref h_rules_codes, .int c_rules_count])), (h_rules_codes, .inl (tc.1, 24, .inl c_rules_codes)), (h_sets, .inr (7, [.int c_sets_nullable, .ref h_sets_first, .ref h_sets_follow, g_sets_begins])), (h_sets_first, .inl (tc.1, 8, .inl c_sets_first)), (h_sets_follow, .inl (tc.1, 8, .inl c_sets_follow)), (h_select, .inl (tc.1, 24, .inl c_select)), (h_possible, .inl (tc.1, 72, .inl f34)), (h_lowest, .inl (tc.1, 72, .inl c_lowest))]) d8_compute_14 7 rfl (fun _ => rfl) (fun f34 => ?_)
    refine j_iincN C (fun x35 => [(1, .int x35), (0, .ref h_)]) d8_compute_15 1 rfl (by decide +kernel) (by decide) (fun _ => rfl) (fun x35 => ?_)
    refine j_goto C d8_compute_18 ?_
    exact j_sub [1, 0] rfl (hrc33 _ _)

set_option maxHeartbeats 4000000 in
set_option maxRecDepth 100000 in
theorem kX8_compute (l : Launch) (D : va_G) (tc : jTC) (N : Nat) (h_ h_rules h_rules_codes h_sets h_sets_first h_sets_follow h_select h_possible h_lowest : Nat) (g_sets_begins : Value) (c_rules_codes : (Nat → Int32)) (c_rules_count : Int32) (c_sets_nullable : Int32) (c_sets_first : (Nat → Int32)) (c_sets_follow : (Nat → Int32)) (c_select : (Nat → Int32)) (c_possible : (Nat → Int32)) (c_lowest : (Nat → Int32)) (c_conflicts : Int32) : ctV l D tc yX8_compute (Cond.code yX8_compute cX8_compute 2 none :: jtb) ({ frames := 4, cells := 0, slots := 0, locals := 88 } : Room) [.ref h_] [(h_, .inr (8, [.ref h_rules, .ref h_sets, .ref h_select, .ref h_possible, .ref h_lowest, .int c_conflicts])), (h_rules, .inr (6, [.ref h_rules_codes, .int c_rules_count])), (h_rules_codes, .inl (tc.1, 24, .inl c_rules_codes)), (h_sets, .inr (7, [.int c_sets_nullable, .ref h_sets_first, .ref h_sets_follow, g_sets_begins])), (h_sets_first, .inl (tc.1, 8, .inl c_sets_first)), (h_sets_follow, .inl (tc.1, 8, .inl c_sets_follow)), (h_select, .inl (tc.1, 24, .inl c_select)), (h_possible, .inl (tc.1, 72, .inl c_possible)), (h_lowest, .inl (tc.1, 72, .inl c_lowest))] (fX8_compute N c_rules_codes c_rules_count c_sets_nullable c_sets_first c_sets_follow c_select c_possible c_lowest c_conflicts) (fun (u : (Nat → Int32) × (Nat → Int32) × (Nat → Int32) × Int32) => [(h_, .inr (8, [.ref h_rules, .ref h_sets, .ref h_select, .ref h_possible, .ref h_lowest, .int u.2.2.2])), (h_rules, .inr (6, [.ref h_rules_codes, .int c_rules_count])), (h_rules_codes, .inl (tc.1, 24, .inl c_rules_codes)), (h_sets, .inr (7, [.int c_sets_nullable, .ref h_sets_first, .ref h_sets_follow, g_sets_begins])), (h_sets_first, .inl (tc.1, 8, .inl c_sets_first)), (h_sets_follow, .inl (tc.1, 8, .inl c_sets_follow)), (h_select, .inl (tc.1, 24, .inl u.1)), (h_possible, .inl (tc.1, 72, .inl u.2.1)), (h_lowest, .inl (tc.1, 72, .inl u.2.2.1))]) := by
  refine ctV_of (lv0 := [(0, .ref h_)]) (by decide +kernel) (Nat.le_of_ble_eq_true rfl) rfl (fun X C => ?_)
  unfold fX8_compute
  refine j_const C d8_compute_0 ?_
  refine j_istore C d8_compute_1 (by decide) (lv' := [(1, .int 0), (0, .ref h_)]) rfl ?_
  refine j_join 21 (fun v1 => [(h_, .inr (8, [.ref h_rules, .ref h_sets, .ref h_select, .ref h_possible, .ref h_lowest, .int c_conflicts])), (h_rules, .inr (6, [.ref h_rules_codes, .int c_rules_count])), (h_rules_codes, .inl (tc.1, 24, .inl c_rules_codes)), (h_sets, .inr (7, [.int c_sets_nullable, .ref h_sets_first, .ref h_sets_follow, g_sets_begins])), (h_sets_first, .inl (tc.1, 8, .inl c_sets_first)), (h_sets_follow, .inl (tc.1, 8, .inl c_sets_follow)), (h_select, .inl (tc.1, 24, .inl c_select)), (h_possible, .inl (tc.1, 72, .inl v1)), (h_lowest, .inl (tc.1, 72, .inl c_lowest))]) (fun v1 => [(0, .ref h_)]) (fun v1 => []) (fun v1 => ?_) (fun k30 hk30 => ?_)
  · refine j_aload C d8_compute_21 0 rfl ?_
    refine j_get C d8_compute_22 fl8_21 0 rfl rfl ?_
    refine j_get C d8_compute_25 fl8_29 1 rfl rfl ?_
    refine j_const C d8_compute_28 ?_
    refine j_isub C d8_compute_29 ?_
    refine j_leti (fun x2 => ?_)
    refine j_istore C d8_compute_30 (by decide) (lv' := [(1, .int x2), (0, .ref h_)]) rfl ?_
    refine j_join3 65 (fun v3 v4 v5 => [(h_, .inr (8, [.ref h_rules, .ref h_sets, .ref h_select, .ref h_possible, .ref h_lowest, .int c_conflicts])), (h_rules, .inr (6, [.ref h_rules_codes, .int c_rules_count])), (h_rules_codes, .inl (tc.1, 24, .inl c_rules_codes)), (h_sets, .inr (7, [.int c_sets_nullable, .ref h_sets_first, .ref h_sets_follow, g_sets_begins])), (h_sets_first, .inl (tc.1, 8, .inl c_sets_first)), (h_sets_follow, .inl (tc.1, 8, .inl c_sets_follow)), (h_select, .inl (tc.1, 24, .inl v3)), (h_possible, .inl (tc.1, 72, .inl v4)), (h_lowest, .inl (tc.1, 72, .inl v5))]) (fun v3 v4 v5 => [(0, .ref h_)]) (fun v3 v4 v5 => []) (fun v3 v4 v5 => ?_) (fun k15 hk15 => ?_)
    · refine j_aload C d8_compute_65 0 rfl ?_
      refine j_const C d8_compute_66 ?_
      refine j_putq C d8_compute_67 fq8_46 0 rfl rfl rfl (Nat.le_of_ble_eq_true rfl) (ws' := [(h_, .inr (8, [.ref h_rules, .ref h_sets, .ref h_select, .ref h_possible, .ref h_lowest, .int 0])), (h_rules, .inr (6, [.ref h_rules_codes, .int c_rules_count])), (h_rules_codes, .inl (tc.1, 24, .inl c_rules_codes)), (h_sets, .inr (7, [.int c_sets_nullable, .ref h_sets_first, .ref h_sets_follow, g_sets_begins])), (h_sets_first, .inl (tc.1, 8, .inl c_sets_first)), (h_sets_follow, .inl (tc.1, 8, .inl c_sets_follow)), (h_select, .inl (tc.1, 24, .inl v3)), (h_possible, .inl (tc.1, 72, .inl v4)), (h_lowest, .inl (tc.1, 72, .inl v5))]) rfl ?_
      refine j_const C d8_compute_70 ?_
      refine j_istore C d8_compute_71 (by decide) (lv' := [(1, .int 0), (0, .ref h_)]) rfl ?_
      refine j_join 98 (fun v6 => [(h_, .inr (8, [.ref h_rules, .ref h_sets, .ref h_select, .ref h_possible, .ref h_lowest, .int v6])), (h_rules, .inr (6, [.ref h_rules_codes, .int c_rules_count])), (h_rules_codes, .inl (tc.1, 24, .inl c_rules_codes)), (h_sets, .inr (7, [.int c_sets_nullable, .ref h_sets_first, .ref h_sets_follow, g_sets_begins])), (h_sets_first, .inl (tc.1, 8, .inl c_sets_first)), (h_sets_follow, .inl (tc.1, 8, .inl c_sets_follow)), (h_select, .inl (tc.1, 24, .inl v3)), (h_possible, .inl (tc.1, 72, .inl v4)), (h_lowest, .inl (tc.1, 72, .inl v5))]) (fun v6 => []) (fun v6 => []) (fun v6 => ?_) (fun k7 hk7 => ?_)
      · exact j_vret C d8_compute_98 rfl
      · exact j_sub [1, 0] rfl (j_loop2 (fun v8 v9 => [(h_, .inr (8, [.ref h_rules, .ref h_sets, .ref h_select, .ref h_possible, .ref h_lowest, .int v9])), (h_rules, .inr (6, [.ref h_rules_codes, .int c_rules_count])), (h_rules_codes, .inl (tc.1, 24, .inl c_rules_codes)), (h_sets, .inr (7, [.int c_sets_nullable, .ref h_sets_first, .ref h_sets_follow, g_sets_begins])), (h_sets_first, .inl (tc.1, 8, .inl c_sets_first)), (h_sets_follow, .inl (tc.1, 8, .inl c_sets_follow)), (h_select, .inl (tc.1, 24, .inl v3)), (h_possible, .inl (tc.1, 72, .inl v4)), (h_lowest, .inl (tc.1, 72, .inl v5))]) (fun v8 v9 => [(0, .ref h_), (1, .int v8)]) (fun rc10 hrc10 v8 v9 => wX8_compute_72 C h_ h_rules h_rules_codes h_sets h_sets_first h_sets_follow h_select h_possible h_lowest g_sets_begins c_rules_codes c_rules_count c_sets_nullable c_sets_first c_sets_follow v3 v4 v5 k7 hk7 rc10 hrc10 v8 v9) N _ _)
    · exact j_sub [1, 0] rfl (j_loop4 (fun v16 v17 v18 v19 => [(h_, .inr (8, [.ref h_rules, .ref h_sets, .ref h_select, .ref h_possible, .ref h_lowest, .int c_conflicts])), (h_rules, .inr (6, [.ref h_rules_codes, .int c_rules_count])), (h_rules_codes, .inl (tc.1, 24, .inl c_rules_codes)), (h_sets, .inr (7, [.int c_sets_nullable, .ref h_sets_first, .ref h_sets_follow, g_sets_begins])), (h_sets_first, .inl (tc.1, 8, .inl c_sets_first)), (h_sets_follow, .inl (tc.1, 8, .inl c_sets_follow)), (h_select, .inl (tc.1, 24, .inl v17)), (h_possible, .inl (tc.1, 72, .inl v18)), (h_lowest, .inl (tc.1, 72, .inl v19))]) (fun v16 v17 v18 v19 => [(0, .ref h_), (1, .int v16)]) (fun rc20 hrc20 v16 v17 v18 v19 => wX8_compute_31 C N h_ h_rules h_rules_codes h_sets h_sets_first h_sets_follow h_select h_possible h_lowest g_sets_begins c_rules_codes c_rules_count c_sets_nullable c_sets_first c_sets_follow c_conflicts k15 hk15 rc20 hrc20 v16 v17 v18 v19) N _ _ _ _)
  · exact j_sub [1, 0] rfl (j_loop2 (fun v31 v32 => [(h_, .inr (8, [.ref h_rules, .ref h_sets, .ref h_select, .ref h_possible, .ref h_lowest, .int c_conflicts])), (h_rules, .inr (6, [.ref h_rules_codes, .int c_rules_count])), (h_rules_codes, .inl (tc.1, 24, .inl c_rules_codes)), (h_sets, .inr (7, [.int c_sets_nullable, .ref h_sets_first, .ref h_sets_follow, g_sets_begins])), (h_sets_first, .inl (tc.1, 8, .inl c_sets_first)), (h_sets_follow, .inl (tc.1, 8, .inl c_sets_follow)), (h_select, .inl (tc.1, 24, .inl c_select)), (h_possible, .inl (tc.1, 72, .inl v32)), (h_lowest, .inl (tc.1, 72, .inl c_lowest))]) (fun v31 v32 => [(0, .ref h_), (1, .int v31)]) (fun rc33 hrc33 v31 v32 => wX8_compute_2 C h_ h_rules h_rules_codes h_sets h_sets_first h_sets_follow h_select h_possible h_lowest g_sets_begins c_rules_codes c_rules_count c_sets_nullable c_sets_first c_sets_follow c_select c_lowest c_conflicts k30 hk30 rc33 hrc33 v31 v32) N _ _)

theorem d8_partOf_0 : jdi cX8_partOf 0 0 1 := Or.inl ⟨0, by decide +kernel⟩
theorem d8_partOf_1 : jdk cX8_partOf 1 5 2 := Or.inl ⟨5, by decide +kernel⟩
theorem d8_partOf_2 : jdk cX8_partOf 2 3 3 := Or.inl ⟨3, by decide +kernel⟩
theorem d8_partOf_3 : jdi cX8_partOf 3 1 4 := Or.inl ⟨1, by decide +kernel⟩
theorem d8_partOf_4 : jd cX8_partOf 4 (.isub) 1 5 := by decide +kernel
theorem d8_partOf_5 : jd cX8_partOf 5 (.imul) 1 6 := by decide +kernel
theorem d8_partOf_6 : jd cX8_partOf 6 (.ishr) 1 7 := by decide +kernel
theorem d8_partOf_7 : jdk cX8_partOf 7 31 9 := Or.inr (Or.inl ⟨31, by decide +kernel⟩)
theorem d8_partOf_9 : jd cX8_partOf 9 (.iand) 1 10 := by decide +kernel
theorem d8_partOf_10 : decode cX8_partOf 10 = .ok (.ireturn, 1) := by decide +kernel
set_option maxHeartbeats 4000000 in
set_option maxRecDepth 100000 in
theorem kX8_partOf (l : Launch) (D : va_G) (tc : jTC) (p0 : Int32) (p1 : Int32) : ctI0 l D tc yX8_partOf (Cond.code yX8_partOf cX8_partOf 2 (some .int) :: jtb) ({ frames := 0, cells := 0, slots := 0, locals := 0 } : Room) [.int p0, .int p1] [] (fX8_partOf p0 p1) := by
  refine ctI0_of (lv0 := [(0, .int p0), (1, .int p1)]) (by decide +kernel) (Nat.le_of_ble_eq_true rfl) rfl (fun X C => ?_)
  unfold fX8_partOf
  refine j_iload C d8_partOf_0 0 rfl ?_
  refine j_const C d8_partOf_1 ?_
  refine j_const C d8_partOf_2 ?_
  refine j_iload C d8_partOf_3 1 rfl ?_
  refine j_isub C d8_partOf_4 ?_
  refine j_imul C d8_partOf_5 ?_
  refine j_ishr C d8_partOf_6 ?_
  refine j_const C d8_partOf_7 ?_
  refine j_iand C d8_partOf_9 ?_
  exact j_iret0 C d8_partOf_10

theorem d8_conflictOf_0 : jdi cX8_conflictOf 0 0 1 := Or.inl ⟨0, by decide +kernel⟩
theorem d8_conflictOf_1 : jdk cX8_conflictOf 1 9 3 := Or.inr (Or.inl ⟨9, by decide +kernel⟩)
theorem d8_conflictOf_3 : jd cX8_conflictOf 3 (.idiv) 1 4 := by decide +kernel
theorem d8_conflictOf_4 : jdk cX8_conflictOf 4 5 5 := Or.inl ⟨5, by decide +kernel⟩
theorem d8_conflictOf_5 : jd cX8_conflictOf 5 (.ishl) 1 6 := by decide +kernel
theorem d8_conflictOf_6 : jdi cX8_conflictOf 6 0 7 := Or.inl ⟨0, by decide +kernel⟩
theorem d8_conflictOf_7 : jdk cX8_conflictOf 7 9 9 := Or.inr (Or.inl ⟨9, by decide +kernel⟩)
theorem d8_conflictOf_9 : jd cX8_conflictOf 9 (.irem) 1 10 := by decide +kernel
theorem d8_conflictOf_10 : jd cX8_conflictOf 10 (.ior) 1 11 := by decide +kernel
theorem d8_conflictOf_11 : jds cX8_conflictOf 11 3 12 := Or.inl ⟨3, by decide +kernel⟩
theorem d8_conflictOf_12 : jdi cX8_conflictOf 12 3 13 := Or.inl ⟨3, by decide +kernel⟩
theorem d8_conflictOf_13 : jdk cX8_conflictOf 13 5 14 := Or.inl ⟨5, by decide +kernel⟩
theorem d8_conflictOf_14 : jd cX8_conflictOf 14 (.ishl) 1 15 := by decide +kernel
theorem d8_conflictOf_15 : jdi cX8_conflictOf 15 1 16 := Or.inl ⟨1, by decide +kernel⟩
theorem d8_conflictOf_16 : jd cX8_conflictOf 16 (.ior) 1 17 := by decide +kernel
theorem d8_conflictOf_17 : jdk cX8_conflictOf 17 5 18 := Or.inl ⟨5, by decide +kernel⟩
theorem d8_conflictOf_18 : jd cX8_conflictOf 18 (.ishl) 1 19 := by decide +kernel
theorem d8_conflictOf_19 : jdi cX8_conflictOf 19 2 20 := Or.inl ⟨2, by decide +kernel⟩
theorem d8_conflictOf_20 : jd cX8_conflictOf 20 (.ior) 1 21 := by decide +kernel
theorem d8_conflictOf_21 : decode cX8_conflictOf 21 = .ok (.ireturn, 1) := by decide +kernel
set_option maxHeartbeats 4000000 in
set_option maxRecDepth 100000 in
theorem kX8_conflictOf (l : Launch) (D : va_G) (tc : jTC) (p0 : Int32) (p1 : Int32) (p2 : Int32) : ctI0 l D tc yX8_conflictOf (Cond.code yX8_conflictOf cX8_conflictOf 4 (some .int) :: jtb) ({ frames := 0, cells := 0, slots := 0, locals := 0 } : Room) [.int p0, .int p1, .int p2] [] (fX8_conflictOf p0 p1 p2) := by
  refine ctI0_of (lv0 := [(0, .int p0), (1, .int p1), (2, .int p2)]) (by decide +kernel) (Nat.le_of_ble_eq_true rfl) rfl (fun X C => ?_)
  unfold fX8_conflictOf
  refine j_iload C d8_conflictOf_0 0 rfl ?_
  refine j_const C d8_conflictOf_1 ?_
  refine j_idiv C d8_conflictOf_3 (by decide) ?_
  refine j_const C d8_conflictOf_4 ?_
  refine j_ishl C d8_conflictOf_5 ?_
  refine j_iload C d8_conflictOf_6 0 rfl ?_
  refine j_const C d8_conflictOf_7 ?_
  refine j_irem C d8_conflictOf_9 (by decide) ?_
  refine j_ior C d8_conflictOf_10 ?_
  refine j_leti (fun x1 => ?_)
  refine j_istore C d8_conflictOf_11 (by decide) (lv' := [(3, .int x1), (0, .int p0), (1, .int p1), (2, .int p2)]) rfl ?_
  refine j_iload C d8_conflictOf_12 0 rfl ?_
  refine j_const C d8_conflictOf_13 ?_
  refine j_ishl C d8_conflictOf_14 ?_
  refine j_iload C d8_conflictOf_15 2 rfl ?_
  refine j_ior C d8_conflictOf_16 ?_
  refine j_const C d8_conflictOf_17 ?_
  refine j_ishl C d8_conflictOf_18 ?_
  refine j_iload C d8_conflictOf_19 3 rfl ?_
  refine j_ior C d8_conflictOf_20 ?_
  exact j_iret0 C d8_conflictOf_21

theorem d8_isPossible_0 : jda cX8_isPossible 0 0 1 := Or.inl ⟨0, by decide +kernel⟩
theorem d8_isPossible_1 : jd cX8_isPossible 1 (.getfield 21) 3 4 := by decide +kernel
theorem d8_isPossible_4 : jd cX8_isPossible 4 (.getfield 35) 3 7 := by decide +kernel
theorem d8_isPossible_7 : jdi cX8_isPossible 7 1 8 := Or.inl ⟨1, by decide +kernel⟩
theorem d8_isPossible_8 : jd cX8_isPossible 8 (.iaload) 1 9 := by decide +kernel
theorem d8_isPossible_9 : jdi cX8_isPossible 9 2 10 := Or.inl ⟨2, by decide +kernel⟩
theorem d8_isPossible_10 : jdk cX8_isPossible 10 9 12 := Or.inr (Or.inl ⟨9, by decide +kernel⟩)
theorem d8_isPossible_12 : jd cX8_isPossible 12 (.idiv) 1 13 := by decide +kernel
theorem d8_isPossible_13 : jd cX8_isPossible 13 (.invokestatic 81) 3 16 := by decide +kernel
theorem d8_isPossible_16 : jdb cX8_isPossible 16 (.ifCond .eq 24) 24 40 19 := by decide +kernel
theorem d8_isPossible_19 : jda cX8_isPossible 19 0 20 := Or.inl ⟨0, by decide +kernel⟩
theorem d8_isPossible_20 : jd cX8_isPossible 20 (.getfield 9) 3 23 := by decide +kernel
theorem d8_isPossible_23 : jdi cX8_isPossible 23 1 24 := Or.inl ⟨1, by decide +kernel⟩
theorem d8_isPossible_24 : jd cX8_isPossible 24 (.iaload) 1 25 := by decide +kernel
theorem d8_isPossible_25 : jdi cX8_isPossible 25 2 26 := Or.inl ⟨2, by decide +kernel⟩
theorem d8_isPossible_26 : jdk cX8_isPossible 26 9 28 := Or.inr (Or.inl ⟨9, by decide +kernel⟩)
theorem d8_isPossible_28 : jd cX8_isPossible 28 (.irem) 1 29 := by decide +kernel
theorem d8_isPossible_29 : jd cX8_isPossible 29 (.invokestatic 68) 3 32 := by decide +kernel
theorem d8_isPossible_32 : jdk cX8_isPossible 32 1 33 := Or.inl ⟨1, by decide +kernel⟩
theorem d8_isPossible_33 : jdb cX8_isPossible 33 (.if_icmp .ne 7) 7 40 36 := by decide +kernel
theorem d8_isPossible_36 : jdk cX8_isPossible 36 1 37 := Or.inl ⟨1, by decide +kernel⟩
theorem d8_isPossible_37 : jdb cX8_isPossible 37 (.goto 4) 4 41 40 := by decide +kernel
theorem d8_isPossible_40 : jdk cX8_isPossible 40 0 41 := Or.inl ⟨0, by decide +kernel⟩
theorem d8_isPossible_41 : decode cX8_isPossible 41 = .ok (.ireturn, 1) := by decide +kernel
set_option maxHeartbeats 4000000 in
set_option maxRecDepth 100000 in
theorem kX8_isPossible (l : Launch) (D : va_G) (tc : jTC) (h_ h_rules h_rules_codes h_select : Nat) (g_sets g_possible g_lowest g_conflicts g_rules_count : Value) (c_rules_codes : (Nat → Int32)) (c_select : (Nat → Int32)) (p1 : Int32) (p2 : Int32) : ctI0 l D tc yX8_isPossible (Cond.code yX8_isPossible cX8_isPossible 3 (some .boolean) :: jtb) ({ frames := 2, cells := 0, slots := 0, locals := 41 } : Room) [.ref h_, .int p1, .int p2] [(h_, .inr (8, [.ref h_rules, g_sets, .ref h_select, g_possible, g_lowest, g_conflicts])), (h_rules, .inr (6, [.ref h_rules_codes, g_rules_count])), (h_rules_codes, .inl (tc.1, 24, .inl c_rules_codes)), (h_select, .inl (tc.1, 24, .inl c_select))] (fX8_isPossible c_rules_codes c_select p1 p2) := by
  refine ctI0_of (lv0 := [(0, .ref h_), (1, .int p1), (2, .int p2)]) (by decide +kernel) (Nat.le_of_ble_eq_true rfl) rfl (fun X C => ?_)
  unfold fX8_isPossible
  refine j_aload C d8_isPossible_0 0 rfl ?_
  refine j_get C d8_isPossible_1 fl8_21 0 rfl rfl ?_
  refine j_get C d8_isPossible_4 fl8_35 1 rfl rfl ?_
  refine j_iload C d8_isPossible_7 1 rfl ?_
  refine j_iald C d8_isPossible_8 2 rfl (fun x1 => ?_)
  refine j_iload C d8_isPossible_9 2 rfl ?_
  refine j_const C d8_isPossible_10 ?_
  refine j_idiv C d8_isPossible_12 (by decide) ?_
  refine j_callSI0 (As := [.int x1, .int (p2 / (9 : Int32))]) C d8_isPossible_13 ms8_81 (kX6_isOf _ _ tc x1 (p2 / (9 : Int32))) ⟨rfl, rfl, Nat.le_of_ble_eq_true rfl, Nat.le_of_ble_eq_true rfl⟩ rfl [] rfl rfl rfl (Nat.le_of_ble_eq_true rfl) (fun x2 => ?_)
  refine j_join 41 (fun v3 => [(h_, .inr (8, [.ref h_rules, g_sets, .ref h_select, g_possible, g_lowest, g_conflicts])), (h_rules, .inr (6, [.ref h_rules_codes, g_rules_count])), (h_rules_codes, .inl (tc.1, 24, .inl c_rules_codes)), (h_select, .inl (tc.1, 24, .inl c_select))]) (fun v3 => []) (fun v3 => [.int v3]) (fun v3 => ?_) (fun k4 hk4 => ?_)
  · refine j_gz (fun hz => ?_)
    exact j_zret0 C hz d8_isPossible_41
  · refine j_join 40 (fun v5 => [(h_, .inr (8, [.ref h_rules, g_sets, .ref h_select, g_possible, g_lowest, g_conflicts])), (h_rules, .inr (6, [.ref h_rules_codes, g_rules_count])), (h_rules_codes, .inl (tc.1, 24, .inl c_rules_codes)), (h_select, .inl (tc.1, 24, .inl c_select))]) (fun v5 => []) (fun v5 => []) (fun v5 => ?_) (fun k6 hk6 => ?_)
    · refine j_const C d8_isPossible_40 ?_
      exact hk4 _
    · refine j_if_eq C d8_isPossible_16 ?_ ?_
      · exact j_sub [] rfl (hk6 _)
      · refine j_aload C d8_isPossible_19 0 rfl ?_
        refine j_get C d8_isPossible_20 fl8_9 0 rfl rfl ?_
        refine j_iload C d8_isPossible_23 1 rfl ?_
        refine j_iald C d8_isPossible_24 3 rfl (fun x7 => ?_)
        refine j_iload C d8_isPossible_25 2 rfl ?_
        refine j_const C d8_isPossible_26 ?_
        refine j_irem C d8_isPossible_28 (by decide) ?_
        refine j_callNI0 (As := [.int x7, .int (p2 - p2 / (9 : Int32) * (9 : Int32))]) C d8_isPossible_29 mn8_68 (kX11_bit _ _ tc x7 (p2 - p2 / (9 : Int32) * (9 : Int32))) ⟨rfl, rfl, Nat.le_of_ble_eq_true rfl, Nat.le_of_ble_eq_true rfl⟩ rfl [] rfl rfl rfl (Nat.le_of_ble_eq_true rfl) (fun x8 => ?_)
        refine j_const C d8_isPossible_32 ?_
        refine j_icmp_ne C d8_isPossible_33 ?_ ?_
        · exact j_sub [] rfl (hk6 _)
        · refine j_const C d8_isPossible_36 ?_
          refine j_goto C d8_isPossible_37 ?_
          exact j_sub [] rfl (hk4 _)

theorem d8_conflictIn_0 : jdi cX8_conflictIn 0 2 1 := Or.inl ⟨2, by decide +kernel⟩
theorem d8_conflictIn_1 : jds cX8_conflictIn 1 3 2 := Or.inl ⟨3, by decide +kernel⟩
theorem d8_conflictIn_2 : jdk cX8_conflictIn 2 0 3 := Or.inl ⟨0, by decide +kernel⟩
theorem d8_conflictIn_3 : jds cX8_conflictIn 3 4 5 := Or.inr (by decide +kernel)
theorem d8_conflictIn_5 : jdi cX8_conflictIn 5 4 7 := Or.inr (by decide +kernel)
theorem d8_conflictIn_7 : jda cX8_conflictIn 7 0 8 := Or.inl ⟨0, by decide +kernel⟩
theorem d8_conflictIn_8 : jd cX8_conflictIn 8 (.getfield 21) 3 11 := by decide +kernel
theorem d8_conflictIn_11 : jd cX8_conflictIn 11 (.getfield 29) 3 14 := by decide +kernel
theorem d8_conflictIn_14 : jdb cX8_conflictIn 14 (.if_icmp .ge 69) 69 83 17 := by decide +kernel
theorem d8_conflictIn_17 : jdi cX8_conflictIn 17 4 19 := Or.inr (by decide +kernel)
theorem d8_conflictIn_19 : jdk cX8_conflictIn 19 1 20 := Or.inl ⟨1, by decide +kernel⟩
theorem d8_conflictIn_20 : jd cX8_conflictIn 20 (.iadd) 1 21 := by decide +kernel
theorem d8_conflictIn_21 : jds cX8_conflictIn 21 5 23 := Or.inr (by decide +kernel)
theorem d8_conflictIn_23 : jdi cX8_conflictIn 23 5 25 := Or.inr (by decide +kernel)
theorem d8_conflictIn_25 : jda cX8_conflictIn 25 0 26 := Or.inl ⟨0, by decide +kernel⟩
theorem d8_conflictIn_26 : jd cX8_conflictIn 26 (.getfield 21) 3 29 := by decide +kernel
theorem d8_conflictIn_29 : jd cX8_conflictIn 29 (.getfield 29) 3 32 := by decide +kernel
theorem d8_conflictIn_32 : jdb cX8_conflictIn 32 (.if_icmp .ge 45) 45 77 35 := by decide +kernel
theorem d8_conflictIn_35 : jda cX8_conflictIn 35 0 36 := Or.inl ⟨0, by decide +kernel⟩
theorem d8_conflictIn_36 : jdi cX8_conflictIn 36 4 38 := Or.inr (by decide +kernel)
theorem d8_conflictIn_38 : jdi cX8_conflictIn 38 1 39 := Or.inl ⟨1, by decide +kernel⟩
theorem d8_conflictIn_39 : jd cX8_conflictIn 39 (.invokevirtual 74) 3 42 := by decide +kernel
theorem d8_conflictIn_42 : jdb cX8_conflictIn 42 (.ifCond .eq 35) 35 77 45 := by decide +kernel
theorem d8_conflictIn_45 : jda cX8_conflictIn 45 0 46 := Or.inl ⟨0, by decide +kernel⟩
theorem d8_conflictIn_46 : jdi cX8_conflictIn 46 5 48 := Or.inr (by decide +kernel)
theorem d8_conflictIn_48 : jdi cX8_conflictIn 48 1 49 := Or.inl ⟨1, by decide +kernel⟩
theorem d8_conflictIn_49 : jd cX8_conflictIn 49 (.invokevirtual 74) 3 52 := by decide +kernel
theorem d8_conflictIn_52 : jdb cX8_conflictIn 52 (.ifCond .eq 19) 19 71 55 := by decide +kernel
theorem d8_conflictIn_55 : jdi cX8_conflictIn 55 3 56 := Or.inl ⟨3, by decide +kernel⟩
theorem d8_conflictIn_56 : jdb cX8_conflictIn 56 (.ifCond .ne 12) 12 68 59 := by decide +kernel
theorem d8_conflictIn_59 : jdi cX8_conflictIn 59 1 60 := Or.inl ⟨1, by decide +kernel⟩
theorem d8_conflictIn_60 : jdi cX8_conflictIn 60 4 62 := Or.inr (by decide +kernel)
theorem d8_conflictIn_62 : jdi cX8_conflictIn 62 5 64 := Or.inr (by decide +kernel)
theorem d8_conflictIn_64 : jd cX8_conflictIn 64 (.invokestatic 77) 3 67 := by decide +kernel
theorem d8_conflictIn_67 : decode cX8_conflictIn 67 = .ok (.ireturn, 1) := by decide +kernel
theorem d8_conflictIn_68 : jd cX8_conflictIn 68 (.iinc 3 (-1)) 3 71 := by decide +kernel
theorem d8_conflictIn_71 : jd cX8_conflictIn 71 (.iinc 5 1) 3 74 := by decide +kernel
theorem d8_conflictIn_74 : jdb cX8_conflictIn 74 (.goto (-51)) (-51) 23 77 := by decide +kernel
theorem d8_conflictIn_77 : jd cX8_conflictIn 77 (.iinc 4 1) 3 80 := by decide +kernel
theorem d8_conflictIn_80 : jdb cX8_conflictIn 80 (.goto (-75)) (-75) 5 83 := by decide +kernel
theorem d8_conflictIn_83 : jdk cX8_conflictIn 83 (-1) 84 := Or.inl ⟨(-1), by decide +kernel⟩
theorem d8_conflictIn_84 : decode cX8_conflictIn 84 = .ok (.ireturn, 1) := by decide +kernel
set_option maxHeartbeats 4000000 in
set_option maxRecDepth 100000 in
theorem wX8_conflictIn_23 {X : jC} {tc : jTC} (C : jx X cX8_conflictIn 6 RX8 (some .int) tc ({ frames := 3, cells := 0, slots := 0, locals := 63 } : Room)) (h_ h_rules h_rules_codes h_select : Nat) (g_sets g_possible g_lowest g_conflicts : Value) (p1 : Int32) (c_rules_codes : (Nat → Int32)) (c_rules_count : Int32) (c_select : (Nat → Int32)) (v4 : Int32) (k9 : (Int32 → Option (Int32))) (hk9 : ∀ (v20 : Int32), jo X 6 (0, 0) (jQI0 X [(h_, .inr (8, [.ref h_rules, g_sets, .ref h_select, g_possible, g_lowest, g_conflicts])), (h_rules, .inr (6, [.ref h_rules_codes, .int c_rules_count])), (h_rules_codes, .inl (tc.1, 24, .inl c_rules_codes)), (h_select, .inl (tc.1, 24, .inl c_select))]) (k9 v20) [(h_, .inr (8, [.ref h_rules, g_sets, .ref h_select, g_possible, g_lowest, g_conflicts])), (h_rules, .inr (6, [.ref h_rules_codes, .int c_rules_count])), (h_rules_codes, .inl (tc.1, 24, .inl c_rules_codes)), (h_select, .inl (tc.1, 24, .inl c_select))] 77 [(0, .ref h_), (1, .int p1), (3, .int v20), (4, .int v4)] []) (rc12 : Int32 → Int32 → Option (Int32)) (hrc12 : ∀ (v10 : Int32) (v11 : Int32), jo X 6 (0, 0) (jQI0 X [(h_, .inr (8, [.ref h_rules, g_sets, .ref h_select, g_possible, g_lowest, g_conflicts])), (h_rules, .inr (6, [.ref h_rules_codes, .int c_rules_count])), (h_rules_codes, .inl (tc.1, 24, .inl c_rules_codes)), (h_select, .inl (tc.1, 24, .inl c_select))]) (rc12 v10 v11) [(h_, .inr (8, [.ref h_rules, g_sets, .ref h_select, g_possible, g_lowest, g_conflicts])), (h_rules, .inr (6, [.ref h_rules_codes, .int c_rules_count])), (h_rules_codes, .inl (tc.1, 24, .inl c_rules_codes)), (h_select, .inl (tc.1, 24, .inl c_select))] 23 [(0, .ref h_), (1, .int p1), (3, .int v10), (4, .int v4), (5, .int v11)] []) (v10 : Int32) (v11 : Int32) : jo X 6 (0, 0) (jQI0 X [(h_, .inr (8, [.ref h_rules, g_sets, .ref h_select, g_possible, g_lowest, g_conflicts])), (h_rules, .inr (6, [.ref h_rules_codes, .int c_rules_count])), (h_rules_codes, .inl (tc.1, 24, .inl c_rules_codes)), (h_select, .inl (tc.1, 24, .inl c_select))]) (bX8_conflictIn_23 p1 c_rules_codes c_rules_count c_select v4 k9 rc12 v10 v11) [(h_, .inr (8, [.ref h_rules, g_sets, .ref h_select, g_possible, g_lowest, g_conflicts])), (h_rules, .inr (6, [.ref h_rules_codes, .int c_rules_count])), (h_rules_codes, .inl (tc.1, 24, .inl c_rules_codes)), (h_select, .inl (tc.1, 24, .inl c_select))] 23 [(0, .ref h_), (1, .int p1), (3, .int v10), (4, .int v4), (5, .int v11)] [] := by
  unfold bX8_conflictIn_23
  refine j_iload C d8_conflictIn_23 4 rfl ?_
  refine j_aload C d8_conflictIn_25 0 rfl ?_
  refine j_get C d8_conflictIn_26 fl8_21 0 rfl rfl ?_
  refine j_get C d8_conflictIn_29 fl8_29 1 rfl rfl ?_
  refine j_icmp_ge C d8_conflictIn_32 ?_ ?_
  · exact j_sub [0, 1, 2, 3] rfl (hk9 _)
  · refine j_aload C d8_conflictIn_35 0 rfl ?_
    refine j_iload C d8_conflictIn_36 3 rfl ?_
    refine j_iload C d8_conflictIn_38 1 rfl ?_
    refine j_callVI0 (As := [.int v4, .int p1]) C d8_conflictIn_39 mv8_74 (kX8_isPossible _ _ tc h_ h_rules h_rules_codes h_select g_sets g_possible g_lowest g_conflicts (.int c_rules_count) c_rules_codes c_select v4 p1) ⟨rfl, rfl, Nat.le_of_ble_eq_true rfl, Nat.le_of_ble_eq_true rfl⟩ rfl 0 rfl [0, 1, 2, 3] rfl rfl rfl (Nat.le_of_ble_eq_true rfl) (fun x13 => ?_)
    refine j_if_eq C d8_conflictIn_42 ?_ ?_
    · exact j_sub [0, 1, 2, 3] rfl (hk9 _)
    · refine j_aload C d8_conflictIn_45 0 rfl ?_
      refine j_iload C d8_conflictIn_46 4 rfl ?_
      refine j_iload C d8_conflictIn_48 1 rfl ?_
      refine j_callVI0 (As := [.int v11, .int p1]) C d8_conflictIn_49 mv8_74 (kX8_isPossible _ _ tc h_ h_rules h_rules_codes h_select g_sets g_possible g_lowest g_conflicts (.int c_rules_count) c_rules_codes c_select v11 p1) ⟨rfl, rfl, Nat.le_of_ble_eq_true rfl, Nat.le_of_ble_eq_true rfl⟩ rfl 0 rfl [0, 1, 2, 3] rfl rfl rfl (Nat.le_of_ble_eq_true rfl) (fun x14 => ?_)
      refine j_join 71 (fun v15 => [(h_, .inr (8, [.ref h_rules, g_sets, .ref h_select, g_possible, g_lowest, g_conflicts])), (h_rules, .inr (6, [.ref h_rules_codes, .int c_rules_count])), (h_rules_codes, .inl (tc.1, 24, .inl c_rules_codes)), (h_select, .inl (tc.1, 24, .inl c_select))]) (fun v15 => [(0, .ref h_), (1, .int p1), (3, .int v15), (4, .int v4), (5, .int v11)]) (fun v15 => []) (fun v15 => ?_) (fun k17 hk17 => ?_)
      · refine j_iincN C (fun x16 => [(5, .int x16), (0, .ref h_), (1, .int p1), (3, .int v15), (4, .int v4)]) d8_conflictIn_71 4 rfl (by decide +kernel) (by decide) (fun _ => rfl) (fun x16 => ?_)
        refine j_goto C d8_conflictIn_74 ?_
        exact j_sub [1, 2, 3, 4, 0] rfl (hrc12 _ _)
      · refine j_if_eq C d8_conflictIn_52 ?_ ?_
        · exact hk17 _
        · refine j_iload C d8_conflictIn_55 2 rfl ?_
          refine j_if_ne C d8_conflictIn_56 ?_ ?_
          · refine j_iincN C (fun x18 => [(3, .int x18), (0, .ref h_), (1, .int p1), (4, .int v4), (5, .int v11)]) d8_conflictIn_68 2 rfl (by decide +kernel) (by decide) (fun _ => rfl) (fun x18 => ?_)
            exact j_sub [1, 2, 0, 3, 4] rfl (hk17 _)
          · refine j_iload C d8_conflictIn_59 1 rfl ?_
            refine j_iload C d8_conflictIn_60 3 rfl ?_
            refine j_iload C d8_conflictIn_62 4 rfl ?_
            refine j_callSI0 (As := [.int p1, .int v4, .int v11]) C d8_conflictIn_64 ms8_77 (kX8_conflictOf _ _ tc p1 v4 v11) ⟨rfl, rfl, Nat.le_of_ble_eq_true rfl, Nat.le_of_ble_eq_true rfl⟩ rfl [] rfl rfl rfl (Nat.le_of_ble_eq_true rfl) (fun x19 => ?_)
            exact j_iret0 C d8_conflictIn_67

set_option maxHeartbeats 4000000 in
set_option maxRecDepth 100000 in
theorem wX8_conflictIn_5 {X : jC} {tc : jTC} (C : jx X cX8_conflictIn 6 RX8 (some .int) tc ({ frames := 3, cells := 0, slots := 0, locals := 63 } : Room)) (N : Nat) (h_ h_rules h_rules_codes h_select : Nat) (g_sets g_possible g_lowest g_conflicts : Value) (p1 : Int32) (c_rules_codes : (Nat → Int32)) (c_rules_count : Int32) (c_select : (Nat → Int32)) (k2 : (Unit → Option (Int32))) (hk2 : ∀ (v21 : Unit), jo X 6 (0, 0) (jQI0 X [(h_, .inr (8, [.ref h_rules, g_sets, .ref h_select, g_possible, g_lowest, g_conflicts])), (h_rules, .inr (6, [.ref h_rules_codes, .int c_rules_count])), (h_rules_codes, .inl (tc.1, 24, .inl c_rules_codes)), (h_select, .inl (tc.1, 24, .inl c_select))]) (k2 v21) [(h_, .inr (8, [.ref h_rules, g_sets, .ref h_select, g_possible, g_lowest, g_conflicts])), (h_rules, .inr (6, [.ref h_rules_codes, .int c_rules_count])), (h_rules_codes, .inl (tc.1, 24, .inl c_rules_codes)), (h_select, .inl (tc.1, 24, .inl c_select))] 83 [] []) (rc5 : Int32 → Int32 → Option (Int32)) (hrc5 : ∀ (v3 : Int32) (v4 : Int32), jo X 6 (0, 0) (jQI0 X [(h_, .inr (8, [.ref h_rules, g_sets, .ref h_select, g_possible, g_lowest, g_conflicts])), (h_rules, .inr (6, [.ref h_rules_codes, .int c_rules_count])), (h_rules_codes, .inl (tc.1, 24, .inl c_rules_codes)), (h_select, .inl (tc.1, 24, .inl c_select))]) (rc5 v3 v4) [(h_, .inr (8, [.ref h_rules, g_sets, .ref h_select, g_possible, g_lowest, g_conflicts])), (h_rules, .inr (6, [.ref h_rules_codes, .int c_rules_count])), (h_rules_codes, .inl (tc.1, 24, .inl c_rules_codes)), (h_select, .inl (tc.1, 24, .inl c_select))] 5 [(0, .ref h_), (1, .int p1), (3, .int v3), (4, .int v4)] []) (v3 : Int32) (v4 : Int32) : jo X 6 (0, 0) (jQI0 X [(h_, .inr (8, [.ref h_rules, g_sets, .ref h_select, g_possible, g_lowest, g_conflicts])), (h_rules, .inr (6, [.ref h_rules_codes, .int c_rules_count])), (h_rules_codes, .inl (tc.1, 24, .inl c_rules_codes)), (h_select, .inl (tc.1, 24, .inl c_select))]) (bX8_conflictIn_5 N p1 c_rules_codes c_rules_count c_select k2 rc5 v3 v4) [(h_, .inr (8, [.ref h_rules, g_sets, .ref h_select, g_possible, g_lowest, g_conflicts])), (h_rules, .inr (6, [.ref h_rules_codes, .int c_rules_count])), (h_rules_codes, .inl (tc.1, 24, .inl c_rules_codes)), (h_select, .inl (tc.1, 24, .inl c_select))] 5 [(0, .ref h_), (1, .int p1), (3, .int v3), (4, .int v4)] [] := by
  unfold bX8_conflictIn_5
  refine j_iload C d8_conflictIn_5 3 rfl ?_
  refine j_aload C d8_conflictIn_7 0 rfl ?_
  refine j_get C d8_conflictIn_8 fl8_21 0 rfl rfl ?_
  refine j_get C d8_conflictIn_11 fl8_29 1 rfl rfl ?_
  refine j_icmp_ge C d8_conflictIn_14 ?_ ?_
  · exact j_sub [] rfl (hk2 _)
  · refine j_iload C d8_conflictIn_17 3 rfl ?_
    refine j_const C d8_conflictIn_19 ?_
    refine j_iadd C d8_conflictIn_20 ?_
    refine j_leti (fun x6 => ?_)
    refine j_istore C d8_conflictIn_21 (by decide) (lv' := [(5, .int x6), (0, .ref h_), (1, .int p1), (3, .int v3), (4, .int v4)]) rfl ?_
    refine j_join 77 (fun v7 => [(h_, .inr (8, [.ref h_rules, g_sets, .ref h_select, g_possible, g_lowest, g_conflicts])), (h_rules, .inr (6, [.ref h_rules_codes, .int c_rules_count])), (h_rules_codes, .inl (tc.1, 24, .inl c_rules_codes)), (h_select, .inl (tc.1, 24, .inl c_select))]) (fun v7 => [(0, .ref h_), (1, .int p1), (3, .int v7), (4, .int v4)]) (fun v7 => []) (fun v7 => ?_) (fun k9 hk9 => ?_)
    · refine j_iincN C (fun x8 => [(4, .int x8), (0, .ref h_), (1, .int p1), (3, .int v7)]) d8_conflictIn_77 3 rfl (by decide +kernel) (by decide) (fun _ => rfl) (fun x8 => ?_)
      refine j_goto C d8_conflictIn_80 ?_
      exact j_sub [1, 2, 3, 0] rfl (hrc5 _ _)
    · exact j_sub [1, 2, 3, 4, 0] rfl (j_loop2 (fun v10 v11 => [(h_, .inr (8, [.ref h_rules, g_sets, .ref h_select, g_possible, g_lowest, g_conflicts])), (h_rules, .inr (6, [.ref h_rules_codes, .int c_rules_count])), (h_rules_codes, .inl (tc.1, 24, .inl c_rules_codes)), (h_select, .inl (tc.1, 24, .inl c_select))]) (fun v10 v11 => [(0, .ref h_), (1, .int p1), (3, .int v10), (4, .int v4), (5, .int v11)]) (fun rc12 hrc12 v10 v11 => wX8_conflictIn_23 C h_ h_rules h_rules_codes h_select g_sets g_possible g_lowest g_conflicts p1 c_rules_codes c_rules_count c_select v4 k9 hk9 rc12 hrc12 v10 v11) N _ _)

set_option maxHeartbeats 4000000 in
set_option maxRecDepth 100000 in
theorem kX8_conflictIn (l : Launch) (D : va_G) (tc : jTC) (N : Nat) (h_ h_rules h_rules_codes h_select : Nat) (g_sets g_possible g_lowest g_conflicts : Value) (c_rules_codes : (Nat → Int32)) (c_rules_count : Int32) (c_select : (Nat → Int32)) (p1 : Int32) (p2 : Int32) : ctI0 l D tc yX8_conflictIn (Cond.code yX8_conflictIn cX8_conflictIn 6 (some .int) :: jtb) ({ frames := 3, cells := 0, slots := 0, locals := 63 } : Room) [.ref h_, .int p1, .int p2] [(h_, .inr (8, [.ref h_rules, g_sets, .ref h_select, g_possible, g_lowest, g_conflicts])), (h_rules, .inr (6, [.ref h_rules_codes, .int c_rules_count])), (h_rules_codes, .inl (tc.1, 24, .inl c_rules_codes)), (h_select, .inl (tc.1, 24, .inl c_select))] (fX8_conflictIn N c_rules_codes c_rules_count c_select p1 p2) := by
  refine ctI0_of (lv0 := [(0, .ref h_), (1, .int p1), (2, .int p2)]) (by decide +kernel) (Nat.le_of_ble_eq_true rfl) rfl (fun X C => ?_)
  unfold fX8_conflictIn
  refine j_iload C d8_conflictIn_0 2 rfl ?_
  refine j_istore C d8_conflictIn_1 (by decide) (lv' := [(3, .int p2), (0, .ref h_), (1, .int p1), (2, .int p2)]) rfl ?_
  refine j_const C d8_conflictIn_2 ?_
  refine j_istore C d8_conflictIn_3 (by decide) (lv' := [(4, .int 0), (3, .int p2), (0, .ref h_), (1, .int p1), (2, .int p2)]) rfl ?_
  refine j_join 83 (fun v1 => [(h_, .inr (8, [.ref h_rules, g_sets, .ref h_select, g_possible, g_lowest, g_conflicts])), (h_rules, .inr (6, [.ref h_rules_codes, .int c_rules_count])), (h_rules_codes, .inl (tc.1, 24, .inl c_rules_codes)), (h_select, .inl (tc.1, 24, .inl c_select))]) (fun v1 => []) (fun v1 => []) (fun v1 => ?_) (fun k2 hk2 => ?_)
  · refine j_const C d8_conflictIn_83 ?_
    exact j_iret0 C d8_conflictIn_84
  · exact j_sub [2, 3, 1, 0] rfl (j_loop2 (fun v3 v4 => [(h_, .inr (8, [.ref h_rules, g_sets, .ref h_select, g_possible, g_lowest, g_conflicts])), (h_rules, .inr (6, [.ref h_rules_codes, .int c_rules_count])), (h_rules_codes, .inl (tc.1, 24, .inl c_rules_codes)), (h_select, .inl (tc.1, 24, .inl c_select))]) (fun v3 v4 => [(0, .ref h_), (1, .int p1), (3, .int v3), (4, .int v4)]) (fun rc5 hrc5 v3 v4 => wX8_conflictIn_5 C N h_ h_rules h_rules_codes h_select g_sets g_possible g_lowest g_conflicts p1 c_rules_codes c_rules_count c_select k2 hk2 rc5 hrc5 v3 v4) N _ _)

theorem d8_conflictAt_0 : jdi cX8_conflictAt 0 1 1 := Or.inl ⟨1, by decide +kernel⟩
theorem d8_conflictAt_1 : jds cX8_conflictAt 1 2 2 := Or.inl ⟨2, by decide +kernel⟩
theorem d8_conflictAt_2 : jdk cX8_conflictAt 2 0 3 := Or.inl ⟨0, by decide +kernel⟩
theorem d8_conflictAt_3 : jds cX8_conflictAt 3 3 4 := Or.inl ⟨3, by decide +kernel⟩
theorem d8_conflictAt_4 : jdi cX8_conflictAt 4 3 5 := Or.inl ⟨3, by decide +kernel⟩
theorem d8_conflictAt_5 : jdk cX8_conflictAt 5 72 7 := Or.inr (Or.inl ⟨72, by decide +kernel⟩)
theorem d8_conflictAt_7 : jdb cX8_conflictAt 7 (.if_icmp .ge 34) 34 41 10 := by decide +kernel
theorem d8_conflictAt_10 : jda cX8_conflictAt 10 0 11 := Or.inl ⟨0, by decide +kernel⟩
theorem d8_conflictAt_11 : jdi cX8_conflictAt 11 3 12 := Or.inl ⟨3, by decide +kernel⟩
theorem d8_conflictAt_12 : jd cX8_conflictAt 12 (.invokevirtual 49) 3 15 := by decide +kernel
theorem d8_conflictAt_15 : jds cX8_conflictAt 15 4 17 := Or.inr (by decide +kernel)
theorem d8_conflictAt_17 : jdi cX8_conflictAt 17 2 18 := Or.inl ⟨2, by decide +kernel⟩
theorem d8_conflictAt_18 : jdi cX8_conflictAt 18 4 20 := Or.inr (by decide +kernel)
theorem d8_conflictAt_20 : jdb cX8_conflictAt 20 (.if_icmp .ge 10) 10 30 23 := by decide +kernel
theorem d8_conflictAt_23 : jda cX8_conflictAt 23 0 24 := Or.inl ⟨0, by decide +kernel⟩
theorem d8_conflictAt_24 : jdi cX8_conflictAt 24 3 25 := Or.inl ⟨3, by decide +kernel⟩
theorem d8_conflictAt_25 : jdi cX8_conflictAt 25 2 26 := Or.inl ⟨2, by decide +kernel⟩
theorem d8_conflictAt_26 : jd cX8_conflictAt 26 (.invokevirtual 71) 3 29 := by decide +kernel
theorem d8_conflictAt_29 : decode cX8_conflictAt 29 = .ok (.ireturn, 1) := by decide +kernel
theorem d8_conflictAt_30 : jdi cX8_conflictAt 30 2 31 := Or.inl ⟨2, by decide +kernel⟩
theorem d8_conflictAt_31 : jdi cX8_conflictAt 31 4 33 := Or.inr (by decide +kernel)
theorem d8_conflictAt_33 : jd cX8_conflictAt 33 (.isub) 1 34 := by decide +kernel
theorem d8_conflictAt_34 : jds cX8_conflictAt 34 2 35 := Or.inl ⟨2, by decide +kernel⟩
theorem d8_conflictAt_35 : jd cX8_conflictAt 35 (.iinc 3 1) 3 38 := by decide +kernel
theorem d8_conflictAt_38 : jdb cX8_conflictAt 38 (.goto (-34)) (-34) 4 41 := by decide +kernel
theorem d8_conflictAt_41 : jdk cX8_conflictAt 41 (-1) 42 := Or.inl ⟨(-1), by decide +kernel⟩
theorem d8_conflictAt_42 : decode cX8_conflictAt 42 = .ok (.ireturn, 1) := by decide +kernel
set_option maxHeartbeats 4000000 in
set_option maxRecDepth 100000 in
theorem wX8_conflictAt_4 {X : jC} {tc : jTC} (C : jx X cX8_conflictAt 5 RX8 (some .int) tc ({ frames := 4, cells := 0, slots := 0, locals := 88 } : Room)) (N : Nat) (h_ h_rules h_rules_codes h_select h_possible : Nat) (g_sets g_lowest g_conflicts : Value) (c_rules_codes : (Nat → Int32)) (c_rules_count : Int32) (c_select : (Nat → Int32)) (c_possible : (Nat → Int32)) (k2 : (Unit → Option (Int32))) (hk2 : ∀ (v10 : Unit), jo X 5 (0, 0) (jQI0 X [(h_, .inr (8, [.ref h_rules, g_sets, .ref h_select, .ref h_possible, g_lowest, g_conflicts])), (h_rules, .inr (6, [.ref h_rules_codes, .int c_rules_count])), (h_rules_codes, .inl (tc.1, 24, .inl c_rules_codes)), (h_select, .inl (tc.1, 24, .inl c_select)), (h_possible, .inl (tc.1, 72, .inl c_possible))]) (k2 v10) [(h_, .inr (8, [.ref h_rules, g_sets, .ref h_select, .ref h_possible, g_lowest, g_conflicts])), (h_rules, .inr (6, [.ref h_rules_codes, .int c_rules_count])), (h_rules_codes, .inl (tc.1, 24, .inl c_rules_codes)), (h_select, .inl (tc.1, 24, .inl c_select)), (h_possible, .inl (tc.1, 72, .inl c_possible))] 41 [] []) (rc5 : Int32 → Int32 → Option (Int32)) (hrc5 : ∀ (v3 : Int32) (v4 : Int32), jo X 5 (0, 0) (jQI0 X [(h_, .inr (8, [.ref h_rules, g_sets, .ref h_select, .ref h_possible, g_lowest, g_conflicts])), (h_rules, .inr (6, [.ref h_rules_codes, .int c_rules_count])), (h_rules_codes, .inl (tc.1, 24, .inl c_rules_codes)), (h_select, .inl (tc.1, 24, .inl c_select)), (h_possible, .inl (tc.1, 72, .inl c_possible))]) (rc5 v3 v4) [(h_, .inr (8, [.ref h_rules, g_sets, .ref h_select, .ref h_possible, g_lowest, g_conflicts])), (h_rules, .inr (6, [.ref h_rules_codes, .int c_rules_count])), (h_rules_codes, .inl (tc.1, 24, .inl c_rules_codes)), (h_select, .inl (tc.1, 24, .inl c_select)), (h_possible, .inl (tc.1, 72, .inl c_possible))] 4 [(0, .ref h_), (2, .int v3), (3, .int v4)] []) (v3 : Int32) (v4 : Int32) : jo X 5 (0, 0) (jQI0 X [(h_, .inr (8, [.ref h_rules, g_sets, .ref h_select, .ref h_possible, g_lowest, g_conflicts])), (h_rules, .inr (6, [.ref h_rules_codes, .int c_rules_count])), (h_rules_codes, .inl (tc.1, 24, .inl c_rules_codes)), (h_select, .inl (tc.1, 24, .inl c_select)), (h_possible, .inl (tc.1, 72, .inl c_possible))]) (bX8_conflictAt_4 N c_rules_codes c_rules_count c_select c_possible k2 rc5 v3 v4) [(h_, .inr (8, [.ref h_rules, g_sets, .ref h_select, .ref h_possible, g_lowest, g_conflicts])), (h_rules, .inr (6, [.ref h_rules_codes, .int c_rules_count])), (h_rules_codes, .inl (tc.1, 24, .inl c_rules_codes)), (h_select, .inl (tc.1, 24, .inl c_select)), (h_possible, .inl (tc.1, 72, .inl c_possible))] 4 [(0, .ref h_), (2, .int v3), (3, .int v4)] [] := by
  unfold bX8_conflictAt_4
  refine j_iload C d8_conflictAt_4 2 rfl ?_
  refine j_const C d8_conflictAt_5 ?_
  refine j_icmp_ge C d8_conflictAt_7 ?_ ?_
  · exact j_sub [] rfl (hk2 _)
  · refine j_aload C d8_conflictAt_10 0 rfl ?_
    refine j_iload C d8_conflictAt_11 2 rfl ?_
    refine j_callVI0 (As := [.int v4]) C d8_conflictAt_12 mv8_49 (kX8_pairsIn _ _ tc h_ h_possible (.ref h_rules) g_sets (.ref h_select) g_lowest g_conflicts c_possible v4) ⟨rfl, rfl, Nat.le_of_ble_eq_true rfl, Nat.le_of_ble_eq_true rfl⟩ rfl 0 rfl [0, 4] rfl rfl rfl (Nat.le_of_ble_eq_true rfl) (fun x6 => ?_)
    refine j_istore C d8_conflictAt_15 (by decide) (lv' := [(4, .int x6), (0, .ref h_), (2, .int v3), (3, .int v4)]) rfl ?_
    refine j_iload C d8_conflictAt_17 2 rfl ?_
    refine j_iload C d8_conflictAt_18 0 rfl ?_
    refine j_icmp_ge C d8_conflictAt_20 ?_ ?_
    · refine j_iload C d8_conflictAt_30 2 rfl ?_
      refine j_iload C d8_conflictAt_31 0 rfl ?_
      refine j_isub C d8_conflictAt_33 ?_
      refine j_leti (fun x7 => ?_)
      refine j_istore C d8_conflictAt_34 (by decide) (lv' := [(2, .int x7), (4, .int x6), (0, .ref h_), (3, .int v4)]) rfl ?_
      refine j_iincN C (fun x8 => [(3, .int x8), (2, .int x7), (4, .int x6), (0, .ref h_)]) d8_conflictAt_35 3 rfl (by decide +kernel) (by decide) (fun _ => rfl) (fun x8 => ?_)
      refine j_goto C d8_conflictAt_38 ?_
      exact j_sub [3, 1, 0] rfl (hrc5 _ _)
    · refine j_aload C d8_conflictAt_23 1 rfl ?_
      refine j_iload C d8_conflictAt_24 3 rfl ?_
      refine j_iload C d8_conflictAt_25 2 rfl ?_
      refine j_callVI0 (As := [.int v4, .int v3]) C d8_conflictAt_26 mv8_71 (kX8_conflictIn _ _ tc N h_ h_rules h_rules_codes h_select g_sets (.ref h_possible) g_lowest g_conflicts c_rules_codes c_rules_count c_select v4 v3) ⟨rfl, rfl, Nat.le_of_ble_eq_true rfl, Nat.le_of_ble_eq_true rfl⟩ rfl 0 rfl [0, 1, 2, 3] rfl rfl rfl (Nat.le_of_ble_eq_true rfl) (fun x9 => ?_)
      exact j_iret0 C d8_conflictAt_29

set_option maxHeartbeats 4000000 in
set_option maxRecDepth 100000 in
theorem kX8_conflictAt (l : Launch) (D : va_G) (tc : jTC) (N : Nat) (h_ h_rules h_rules_codes h_select h_possible : Nat) (g_sets g_lowest g_conflicts : Value) (c_rules_codes : (Nat → Int32)) (c_rules_count : Int32) (c_select : (Nat → Int32)) (c_possible : (Nat → Int32)) (p1 : Int32) : ctI0 l D tc yX8_conflictAt (Cond.code yX8_conflictAt cX8_conflictAt 5 (some .int) :: jtb) ({ frames := 4, cells := 0, slots := 0, locals := 88 } : Room) [.ref h_, .int p1] [(h_, .inr (8, [.ref h_rules, g_sets, .ref h_select, .ref h_possible, g_lowest, g_conflicts])), (h_rules, .inr (6, [.ref h_rules_codes, .int c_rules_count])), (h_rules_codes, .inl (tc.1, 24, .inl c_rules_codes)), (h_select, .inl (tc.1, 24, .inl c_select)), (h_possible, .inl (tc.1, 72, .inl c_possible))] (fX8_conflictAt N c_rules_codes c_rules_count c_select c_possible p1) := by
  refine ctI0_of (lv0 := [(0, .ref h_), (1, .int p1)]) (by decide +kernel) (Nat.le_of_ble_eq_true rfl) rfl (fun X C => ?_)
  unfold fX8_conflictAt
  refine j_iload C d8_conflictAt_0 1 rfl ?_
  refine j_istore C d8_conflictAt_1 (by decide) (lv' := [(2, .int p1), (0, .ref h_), (1, .int p1)]) rfl ?_
  refine j_const C d8_conflictAt_2 ?_
  refine j_istore C d8_conflictAt_3 (by decide) (lv' := [(3, .int 0), (2, .int p1), (0, .ref h_), (1, .int p1)]) rfl ?_
  refine j_join 41 (fun v1 => [(h_, .inr (8, [.ref h_rules, g_sets, .ref h_select, .ref h_possible, g_lowest, g_conflicts])), (h_rules, .inr (6, [.ref h_rules_codes, .int c_rules_count])), (h_rules_codes, .inl (tc.1, 24, .inl c_rules_codes)), (h_select, .inl (tc.1, 24, .inl c_select)), (h_possible, .inl (tc.1, 72, .inl c_possible))]) (fun v1 => []) (fun v1 => []) (fun v1 => ?_) (fun k2 hk2 => ?_)
  · refine j_const C d8_conflictAt_41 ?_
    exact j_iret0 C d8_conflictAt_42
  · exact j_sub [2, 1, 0] rfl (j_loop2 (fun v3 v4 => [(h_, .inr (8, [.ref h_rules, g_sets, .ref h_select, .ref h_possible, g_lowest, g_conflicts])), (h_rules, .inr (6, [.ref h_rules_codes, .int c_rules_count])), (h_rules_codes, .inl (tc.1, 24, .inl c_rules_codes)), (h_select, .inl (tc.1, 24, .inl c_select)), (h_possible, .inl (tc.1, 72, .inl c_possible))]) (fun v3 v4 => [(0, .ref h_), (2, .int v3), (3, .int v4)]) (fun rc5 hrc5 v3 v4 => wX8_conflictAt_4 C N h_ h_rules h_rules_codes h_select h_possible g_sets g_lowest g_conflicts c_rules_codes c_rules_count c_select c_possible k2 hk2 rc5 hrc5 v3 v4) N _ _)

theorem d8_kindOf_0 : jdi cX8_kindOf 0 1 1 := Or.inl ⟨1, by decide +kernel⟩
theorem d8_kindOf_1 : jdk cX8_kindOf 1 1 2 := Or.inl ⟨1, by decide +kernel⟩
theorem d8_kindOf_2 : jd cX8_kindOf 2 (.invokestatic 84) 3 5 := by decide +kernel
theorem d8_kindOf_5 : jds cX8_kindOf 5 2 6 := Or.inl ⟨2, by decide +kernel⟩
theorem d8_kindOf_6 : jdk cX8_kindOf 6 2 7 := Or.inl ⟨2, by decide +kernel⟩
theorem d8_kindOf_7 : jds cX8_kindOf 7 3 8 := Or.inl ⟨3, by decide +kernel⟩
theorem d8_kindOf_8 : jdk cX8_kindOf 8 0 9 := Or.inl ⟨0, by decide +kernel⟩
theorem d8_kindOf_9 : jds cX8_kindOf 9 4 11 := Or.inr (by decide +kernel)
theorem d8_kindOf_11 : jdi cX8_kindOf 11 4 13 := Or.inr (by decide +kernel)
theorem d8_kindOf_13 : jdk cX8_kindOf 13 2 14 := Or.inl ⟨2, by decide +kernel⟩
theorem d8_kindOf_14 : jdb cX8_kindOf 14 (.if_icmp .ge 60) 60 74 17 := by decide +kernel
theorem d8_kindOf_17 : jdi cX8_kindOf 17 1 18 := Or.inl ⟨1, by decide +kernel⟩
theorem d8_kindOf_18 : jdk cX8_kindOf 18 2 19 := Or.inl ⟨2, by decide +kernel⟩
theorem d8_kindOf_19 : jdi cX8_kindOf 19 4 21 := Or.inr (by decide +kernel)
theorem d8_kindOf_21 : jd cX8_kindOf 21 (.iadd) 1 22 := by decide +kernel
theorem d8_kindOf_22 : jd cX8_kindOf 22 (.invokestatic 84) 3 25 := by decide +kernel
theorem d8_kindOf_25 : jds cX8_kindOf 25 5 27 := Or.inr (by decide +kernel)
theorem d8_kindOf_27 : jdi cX8_kindOf 27 3 28 := Or.inl ⟨3, by decide +kernel⟩
theorem d8_kindOf_28 : jda cX8_kindOf 28 0 29 := Or.inl ⟨0, by decide +kernel⟩
theorem d8_kindOf_29 : jd cX8_kindOf 29 (.getfield 21) 3 32 := by decide +kernel
theorem d8_kindOf_32 : jdi cX8_kindOf 32 5 34 := Or.inr (by decide +kernel)
theorem d8_kindOf_34 : jd cX8_kindOf 34 (.invokevirtual 87) 3 37 := by decide +kernel
theorem d8_kindOf_37 : jdb cX8_kindOf 37 (.ifCond .eq 28) 28 65 40 := by decide +kernel
theorem d8_kindOf_40 : jda cX8_kindOf 40 0 41 := Or.inl ⟨0, by decide +kernel⟩
theorem d8_kindOf_41 : jd cX8_kindOf 41 (.getfield 25) 3 44 := by decide +kernel
theorem d8_kindOf_44 : jda cX8_kindOf 44 0 45 := Or.inl ⟨0, by decide +kernel⟩
theorem d8_kindOf_45 : jd cX8_kindOf 45 (.getfield 21) 3 48 := by decide +kernel
theorem d8_kindOf_48 : jd cX8_kindOf 48 (.getfield 35) 3 51 := by decide +kernel
theorem d8_kindOf_51 : jdi cX8_kindOf 51 5 53 := Or.inr (by decide +kernel)
theorem d8_kindOf_53 : jd cX8_kindOf 53 (.iaload) 1 54 := by decide +kernel
theorem d8_kindOf_54 : jdk cX8_kindOf 54 0 55 := Or.inl ⟨0, by decide +kernel⟩
theorem d8_kindOf_55 : jd cX8_kindOf 55 (.invokevirtual 52) 3 58 := by decide +kernel
theorem d8_kindOf_58 : jdi cX8_kindOf 58 2 59 := Or.inl ⟨2, by decide +kernel⟩
theorem d8_kindOf_59 : jd cX8_kindOf 59 (.invokestatic 68) 3 62 := by decide +kernel
theorem d8_kindOf_62 : jdb cX8_kindOf 62 (.goto 4) 4 66 65 := by decide +kernel
theorem d8_kindOf_65 : jdk cX8_kindOf 65 0 66 := Or.inl ⟨0, by decide +kernel⟩
theorem d8_kindOf_66 : jd cX8_kindOf 66 (.isub) 1 67 := by decide +kernel
theorem d8_kindOf_67 : jds cX8_kindOf 67 3 68 := Or.inl ⟨3, by decide +kernel⟩
theorem d8_kindOf_68 : jd cX8_kindOf 68 (.iinc 4 1) 3 71 := by decide +kernel
theorem d8_kindOf_71 : jdb cX8_kindOf 71 (.goto (-60)) (-60) 11 74 := by decide +kernel
theorem d8_kindOf_74 : jdi cX8_kindOf 74 3 75 := Or.inl ⟨3, by decide +kernel⟩
theorem d8_kindOf_75 : decode cX8_kindOf 75 = .ok (.ireturn, 1) := by decide +kernel
set_option maxHeartbeats 4000000 in
set_option maxRecDepth 100000 in
theorem wX8_kindOf_11 {X : jC} {tc : jTC} (C : jx X cX8_kindOf 6 RX8 (some .int) tc ({ frames := 3, cells := 0, slots := 0, locals := 66 } : Room)) (N : Nat) (h_ h_rules h_rules_codes h_sets h_sets_first : Nat) (g_select g_possible g_lowest g_conflicts g_sets_follow g_sets_begins : Value) (p1 : Int32) (c_rules_codes : (Nat → Int32)) (c_rules_count : Int32) (c_sets_nullable : Int32) (c_sets_first : (Nat → Int32)) (x1 : Int32) (k3 : (Int32 → Option (Int32))) (hk3 : ∀ (v16 : Int32), jo X 6 (0, 0) (jQI0 X [(h_, .inr (8, [.ref h_rules, .ref h_sets, g_select, g_possible, g_lowest, g_conflicts])), (h_rules, .inr (6, [.ref h_rules_codes, .int c_rules_count])), (h_rules_codes, .inl (tc.1, 24, .inl c_rules_codes)), (h_sets, .inr (7, [.int c_sets_nullable, .ref h_sets_first, g_sets_follow, g_sets_begins])), (h_sets_first, .inl (tc.1, 8, .inl c_sets_first))]) (k3 v16) [(h_, .inr (8, [.ref h_rules, .ref h_sets, g_select, g_possible, g_lowest, g_conflicts])), (h_rules, .inr (6, [.ref h_rules_codes, .int c_rules_count])), (h_rules_codes, .inl (tc.1, 24, .inl c_rules_codes)), (h_sets, .inr (7, [.int c_sets_nullable, .ref h_sets_first, g_sets_follow, g_sets_begins])), (h_sets_first, .inl (tc.1, 8, .inl c_sets_first))] 74 [(3, .int v16)] []) (rc6 : Int32 → Int32 → Option (Int32)) (hrc6 : ∀ (v4 : Int32) (v5 : Int32), jo X 6 (0, 0) (jQI0 X [(h_, .inr (8, [.ref h_rules, .ref h_sets, g_select, g_possible, g_lowest, g_conflicts])), (h_rules, .inr (6, [.ref h_rules_codes, .int c_rules_count])), (h_rules_codes, .inl (tc.1, 24, .inl c_rules_codes)), (h_sets, .inr (7, [.int c_sets_nullable, .ref h_sets_first, g_sets_follow, g_sets_begins])), (h_sets_first, .inl (tc.1, 8, .inl c_sets_first))]) (rc6 v4 v5) [(h_, .inr (8, [.ref h_rules, .ref h_sets, g_select, g_possible, g_lowest, g_conflicts])), (h_rules, .inr (6, [.ref h_rules_codes, .int c_rules_count])), (h_rules_codes, .inl (tc.1, 24, .inl c_rules_codes)), (h_sets, .inr (7, [.int c_sets_nullable, .ref h_sets_first, g_sets_follow, g_sets_begins])), (h_sets_first, .inl (tc.1, 8, .inl c_sets_first))] 11 [(0, .ref h_), (1, .int p1), (2, .int x1), (3, .int v4), (4, .int v5)] []) (v4 : Int32) (v5 : Int32) : jo X 6 (0, 0) (jQI0 X [(h_, .inr (8, [.ref h_rules, .ref h_sets, g_select, g_possible, g_lowest, g_conflicts])), (h_rules, .inr (6, [.ref h_rules_codes, .int c_rules_count])), (h_rules_codes, .inl (tc.1, 24, .inl c_rules_codes)), (h_sets, .inr (7, [.int c_sets_nullable, .ref h_sets_first, g_sets_follow, g_sets_begins])), (h_sets_first, .inl (tc.1, 8, .inl c_sets_first))]) (bX8_kindOf_11 N p1 c_rules_codes c_rules_count c_sets_nullable c_sets_first x1 k3 rc6 v4 v5) [(h_, .inr (8, [.ref h_rules, .ref h_sets, g_select, g_possible, g_lowest, g_conflicts])), (h_rules, .inr (6, [.ref h_rules_codes, .int c_rules_count])), (h_rules_codes, .inl (tc.1, 24, .inl c_rules_codes)), (h_sets, .inr (7, [.int c_sets_nullable, .ref h_sets_first, g_sets_follow, g_sets_begins])), (h_sets_first, .inl (tc.1, 8, .inl c_sets_first))] 11 [(0, .ref h_), (1, .int p1), (2, .int x1), (3, .int v4), (4, .int v5)] [] := by
  unfold bX8_kindOf_11
  refine j_iload C d8_kindOf_11 4 rfl ?_
  refine j_const C d8_kindOf_13 ?_
  refine j_icmp_ge C d8_kindOf_14 ?_ ?_
  · exact j_sub [3] rfl (hk3 _)
  · refine j_iload C d8_kindOf_17 1 rfl ?_
    refine j_const C d8_kindOf_18 ?_
    refine j_iload C d8_kindOf_19 4 rfl ?_
    refine j_iadd C d8_kindOf_21 ?_
    refine j_callSI0 (As := [.int p1, .int ((2 : Int32) + v5)]) C d8_kindOf_22 ms8_84 (kX8_partOf _ _ tc p1 ((2 : Int32) + v5)) ⟨rfl, rfl, Nat.le_of_ble_eq_true rfl, Nat.le_of_ble_eq_true rfl⟩ rfl [] rfl rfl rfl (Nat.le_of_ble_eq_true rfl) (fun x7 => ?_)
    refine j_istore C d8_kindOf_25 (by decide) (lv' := [(5, .int x7), (0, .ref h_), (1, .int p1), (2, .int x1), (3, .int v4), (4, .int v5)]) rfl ?_
    refine j_iload C d8_kindOf_27 4 rfl ?_
    refine j_aload C d8_kindOf_28 1 rfl ?_
    refine j_get C d8_kindOf_29 fl8_21 0 rfl rfl ?_
    refine j_iload C d8_kindOf_32 0 rfl ?_
    refine j_callVI0 (As := [.int x7]) C d8_kindOf_34 mv8_87 (kX6_has _ _ tc h_rules (.ref h_rules_codes) c_rules_count x7) ⟨rfl, rfl, Nat.le_of_ble_eq_true rfl, Nat.le_of_ble_eq_true rfl⟩ rfl 1 rfl [1] rfl rfl rfl (Nat.le_of_ble_eq_true rfl) (fun x8 => ?_)
    refine j_join 66 (fun v9 => [(h_, .inr (8, [.ref h_rules, .ref h_sets, g_select, g_possible, g_lowest, g_conflicts])), (h_rules, .inr (6, [.ref h_rules_codes, .int c_rules_count])), (h_rules_codes, .inl (tc.1, 24, .inl c_rules_codes)), (h_sets, .inr (7, [.int c_sets_nullable, .ref h_sets_first, g_sets_follow, g_sets_begins])), (h_sets_first, .inl (tc.1, 8, .inl c_sets_first))]) (fun v9 => [(0, .ref h_), (1, .int p1), (2, .int x1), (4, .int v5)]) (fun v9 => [.int v9, .int v4]) (fun v9 => ?_) (fun k12 hk12 => ?_)
    · refine j_isub C d8_kindOf_66 ?_
      refine j_leti (fun x10 => ?_)
      refine j_istore C d8_kindOf_67 (by decide) (lv' := [(3, .int x10), (0, .ref h_), (1, .int p1), (2, .int x1), (4, .int v5)]) rfl ?_
      refine j_iincN C (fun x11 => [(4, .int x11), (3, .int x10), (0, .ref h_), (1, .int p1), (2, .int x1)]) d8_kindOf_68 4 rfl (by decide +kernel) (by decide) (fun _ => rfl) (fun x11 => ?_)
      refine j_goto C d8_kindOf_71 ?_
      exact j_sub [2, 3, 4, 1, 0] rfl (hrc6 _ _)
    · refine j_if_eq C d8_kindOf_37 ?_ ?_
      · refine j_const C d8_kindOf_65 ?_
        exact j_sub [1, 2, 3, 5] rfl (hk12 _)
      · refine j_aload C d8_kindOf_40 1 rfl ?_
        refine j_get C d8_kindOf_41 fl8_25 0 rfl rfl ?_
        refine j_aload C d8_kindOf_44 1 rfl ?_
        refine j_get C d8_kindOf_45 fl8_21 0 rfl rfl ?_
        refine j_get C d8_kindOf_48 fl8_35 1 rfl rfl ?_
        refine j_iload C d8_kindOf_51 0 rfl ?_
        refine j_iald C d8_kindOf_53 2 rfl (fun x13 => ?_)
        refine j_const C d8_kindOf_54 ?_
        refine j_callVI0 (As := [.int x13, .int 0]) C d8_kindOf_55 mv8_52 (kX7_firstFrom _ _ tc N h_sets h_sets_first g_sets_follow g_sets_begins c_sets_nullable c_sets_first x13 0) ⟨rfl, rfl, Nat.le_of_ble_eq_true rfl, Nat.le_of_ble_eq_true rfl⟩ rfl 3 rfl [3, 4] rfl rfl rfl (Nat.le_of_ble_eq_true rfl) (fun x14 => ?_)
        refine j_iload C d8_kindOf_58 3 rfl ?_
        refine j_callNI0 (As := [.int x14, .int x1]) C d8_kindOf_59 mn8_68 (kX11_bit _ _ tc x14 x1) ⟨rfl, rfl, Nat.le_of_ble_eq_true rfl, Nat.le_of_ble_eq_true rfl⟩ rfl [] rfl rfl rfl (Nat.le_of_ble_eq_true rfl) (fun x15 => ?_)
        refine j_goto C d8_kindOf_62 ?_
        exact j_sub [1, 2, 3, 5] rfl (hk12 _)

set_option maxHeartbeats 4000000 in
set_option maxRecDepth 100000 in
theorem kX8_kindOf (l : Launch) (D : va_G) (tc : jTC) (N : Nat) (h_ h_rules h_rules_codes h_sets h_sets_first : Nat) (g_select g_possible g_lowest g_conflicts g_sets_follow g_sets_begins : Value) (c_rules_codes : (Nat → Int32)) (c_rules_count : Int32) (c_sets_nullable : Int32) (c_sets_first : (Nat → Int32)) (p1 : Int32) : ctI0 l D tc yX8_kindOf (Cond.code yX8_kindOf cX8_kindOf 6 (some .int) :: jtb) ({ frames := 3, cells := 0, slots := 0, locals := 66 } : Room) [.ref h_, .int p1] [(h_, .inr (8, [.ref h_rules, .ref h_sets, g_select, g_possible, g_lowest, g_conflicts])), (h_rules, .inr (6, [.ref h_rules_codes, .int c_rules_count])), (h_rules_codes, .inl (tc.1, 24, .inl c_rules_codes)), (h_sets, .inr (7, [.int c_sets_nullable, .ref h_sets_first, g_sets_follow, g_sets_begins])), (h_sets_first, .inl (tc.1, 8, .inl c_sets_first))] (fX8_kindOf N c_rules_codes c_rules_count c_sets_nullable c_sets_first p1) := by
  refine ctI0_of (lv0 := [(0, .ref h_), (1, .int p1)]) (by decide +kernel) (Nat.le_of_ble_eq_true rfl) rfl (fun X C => ?_)
  unfold fX8_kindOf
  refine j_iload C d8_kindOf_0 1 rfl ?_
  refine j_const C d8_kindOf_1 ?_
  refine j_callSI0 (As := [.int p1, .int 1]) C d8_kindOf_2 ms8_84 (kX8_partOf _ _ tc p1 1) ⟨rfl, rfl, Nat.le_of_ble_eq_true rfl, Nat.le_of_ble_eq_true rfl⟩ rfl [] rfl rfl rfl (Nat.le_of_ble_eq_true rfl) (fun x1 => ?_)
  refine j_istore C d8_kindOf_5 (by decide) (lv' := [(2, .int x1), (0, .ref h_), (1, .int p1)]) rfl ?_
  refine j_const C d8_kindOf_6 ?_
  refine j_istore C d8_kindOf_7 (by decide) (lv' := [(3, .int 2), (2, .int x1), (0, .ref h_), (1, .int p1)]) rfl ?_
  refine j_const C d8_kindOf_8 ?_
  refine j_istore C d8_kindOf_9 (by decide) (lv' := [(4, .int 0), (3, .int 2), (2, .int x1), (0, .ref h_), (1, .int p1)]) rfl ?_
  refine j_join 74 (fun v2 => [(h_, .inr (8, [.ref h_rules, .ref h_sets, g_select, g_possible, g_lowest, g_conflicts])), (h_rules, .inr (6, [.ref h_rules_codes, .int c_rules_count])), (h_rules_codes, .inl (tc.1, 24, .inl c_rules_codes)), (h_sets, .inr (7, [.int c_sets_nullable, .ref h_sets_first, g_sets_follow, g_sets_begins])), (h_sets_first, .inl (tc.1, 8, .inl c_sets_first))]) (fun v2 => [(3, .int v2)]) (fun v2 => []) (fun v2 => ?_) (fun k3 hk3 => ?_)
  · refine j_iload C d8_kindOf_74 0 rfl ?_
    exact j_iret0 C d8_kindOf_75
  · exact j_sub [3, 4, 2, 1, 0] rfl (j_loop2 (fun v4 v5 => [(h_, .inr (8, [.ref h_rules, .ref h_sets, g_select, g_possible, g_lowest, g_conflicts])), (h_rules, .inr (6, [.ref h_rules_codes, .int c_rules_count])), (h_rules_codes, .inl (tc.1, 24, .inl c_rules_codes)), (h_sets, .inr (7, [.int c_sets_nullable, .ref h_sets_first, g_sets_follow, g_sets_begins])), (h_sets_first, .inl (tc.1, 8, .inl c_sets_first))]) (fun v4 v5 => [(0, .ref h_), (1, .int p1), (2, .int x1), (3, .int v4), (4, .int v5)]) (fun rc6 hrc6 v4 v5 => wX8_kindOf_11 C N h_ h_rules h_rules_codes h_sets h_sets_first g_select g_possible g_lowest g_conflicts g_sets_follow g_sets_begins p1 c_rules_codes c_rules_count c_sets_nullable c_sets_first x1 k3 hk3 rc6 hrc6 v4 v5) N _ _)

theorem d10_terminalOf_0 : jdi cX10_terminalOf 0 2 1 := Or.inl ⟨2, by decide +kernel⟩
theorem d10_terminalOf_1 : jdb cX10_terminalOf 1 (.ifCond .lt 12) 12 13 4 := by decide +kernel
theorem d10_terminalOf_4 : jdi cX10_terminalOf 4 2 5 := Or.inl ⟨2, by decide +kernel⟩
theorem d10_terminalOf_5 : jda cX10_terminalOf 5 0 6 := Or.inl ⟨0, by decide +kernel⟩
theorem d10_terminalOf_6 : jdi cX10_terminalOf 6 1 7 := Or.inl ⟨1, by decide +kernel⟩
theorem d10_terminalOf_7 : jd cX10_terminalOf 7 (.invokevirtual 33) 3 10 := by decide +kernel
theorem d10_terminalOf_10 : jdb cX10_terminalOf 10 (.if_icmp .lt 6) 6 16 13 := by decide +kernel
theorem d10_terminalOf_13 : jdk cX10_terminalOf 13 (-2) 15 := Or.inr (Or.inl ⟨(-2), by decide +kernel⟩)
theorem d10_terminalOf_15 : decode cX10_terminalOf 15 = .ok (.ireturn, 1) := by decide +kernel
theorem d10_terminalOf_16 : jda cX10_terminalOf 16 0 17 := Or.inl ⟨0, by decide +kernel⟩
theorem d10_terminalOf_17 : jdi cX10_terminalOf 17 1 18 := Or.inl ⟨1, by decide +kernel⟩
theorem d10_terminalOf_18 : jd cX10_terminalOf 18 (.invokevirtual 33) 3 21 := by decide +kernel
theorem d10_terminalOf_21 : jdk cX10_terminalOf 21 1 22 := Or.inl ⟨1, by decide +kernel⟩
theorem d10_terminalOf_22 : jd cX10_terminalOf 22 (.isub) 1 23 := by decide +kernel
theorem d10_terminalOf_23 : jdi cX10_terminalOf 23 2 24 := Or.inl ⟨2, by decide +kernel⟩
theorem d10_terminalOf_24 : jd cX10_terminalOf 24 (.isub) 1 25 := by decide +kernel
theorem d10_terminalOf_25 : jds cX10_terminalOf 25 3 26 := Or.inl ⟨3, by decide +kernel⟩
theorem d10_terminalOf_26 : jdi cX10_terminalOf 26 3 27 := Or.inl ⟨3, by decide +kernel⟩
theorem d10_terminalOf_27 : jdk cX10_terminalOf 27 20 29 := Or.inr (Or.inl ⟨20, by decide +kernel⟩)
theorem d10_terminalOf_29 : jdb cX10_terminalOf 29 (.if_icmp .ge 12) 12 41 32 := by decide +kernel
theorem d10_terminalOf_32 : jda cX10_terminalOf 32 0 33 := Or.inl ⟨0, by decide +kernel⟩
theorem d10_terminalOf_33 : jd cX10_terminalOf 33 (.getfield 25) 3 36 := by decide +kernel
theorem d10_terminalOf_36 : jdi cX10_terminalOf 36 1 37 := Or.inl ⟨1, by decide +kernel⟩
theorem d10_terminalOf_37 : jd cX10_terminalOf 37 (.laload) 1 38 := by decide +kernel
theorem d10_terminalOf_38 : jdb cX10_terminalOf 38 (.goto 9) 9 47 41 := by decide +kernel
theorem d10_terminalOf_41 : jda cX10_terminalOf 41 0 42 := Or.inl ⟨0, by decide +kernel⟩
theorem d10_terminalOf_42 : jd cX10_terminalOf 42 (.getfield 21) 3 45 := by decide +kernel
theorem d10_terminalOf_45 : jdi cX10_terminalOf 45 1 46 := Or.inl ⟨1, by decide +kernel⟩
theorem d10_terminalOf_46 : jd cX10_terminalOf 46 (.laload) 1 47 := by decide +kernel
theorem d10_terminalOf_47 : jd cX10_terminalOf 47 (.lstore 4) 2 49 := by decide +kernel
theorem d10_terminalOf_49 : jdi cX10_terminalOf 49 3 50 := Or.inl ⟨3, by decide +kernel⟩
theorem d10_terminalOf_50 : jdk cX10_terminalOf 50 20 52 := Or.inr (Or.inl ⟨20, by decide +kernel⟩)
theorem d10_terminalOf_52 : jdb cX10_terminalOf 52 (.if_icmp .ge 7) 7 59 55 := by decide +kernel
theorem d10_terminalOf_55 : jdi cX10_terminalOf 55 3 56 := Or.inl ⟨3, by decide +kernel⟩
theorem d10_terminalOf_56 : jdb cX10_terminalOf 56 (.goto 7) 7 63 59 := by decide +kernel
theorem d10_terminalOf_59 : jdi cX10_terminalOf 59 3 60 := Or.inl ⟨3, by decide +kernel⟩
theorem d10_terminalOf_60 : jdk cX10_terminalOf 60 20 62 := Or.inr (Or.inl ⟨20, by decide +kernel⟩)
theorem d10_terminalOf_62 : jd cX10_terminalOf 62 (.isub) 1 63 := by decide +kernel
theorem d10_terminalOf_63 : jds cX10_terminalOf 63 6 65 := Or.inr (by decide +kernel)
theorem d10_terminalOf_65 : jdl cX10_terminalOf 65 4 67 := Or.inr (by decide +kernel)
theorem d10_terminalOf_67 : jdk cX10_terminalOf 67 3 68 := Or.inl ⟨3, by decide +kernel⟩
theorem d10_terminalOf_68 : jdi cX10_terminalOf 68 6 70 := Or.inr (by decide +kernel)
theorem d10_terminalOf_70 : jd cX10_terminalOf 70 (.imul) 1 71 := by decide +kernel
theorem d10_terminalOf_71 : jd cX10_terminalOf 71 (.lshr) 1 72 := by decide +kernel
theorem d10_terminalOf_72 : jd cX10_terminalOf 72 (.l2i) 1 73 := by decide +kernel
theorem d10_terminalOf_73 : jdk cX10_terminalOf 73 7 75 := Or.inr (Or.inl ⟨7, by decide +kernel⟩)
theorem d10_terminalOf_75 : jd cX10_terminalOf 75 (.iand) 1 76 := by decide +kernel
theorem d10_terminalOf_76 : decode cX10_terminalOf 76 = .ok (.ireturn, 1) := by decide +kernel
set_option maxHeartbeats 4000000 in
set_option maxRecDepth 100000 in
theorem kX10_terminalOf (l : Launch) (D : va_G) (tc : jTC) (n : Nat) (h_ h_costs h_highs h_lows : Nat) (c_costs : (Nat → Int32)) (c_highs : (Nat → Int64)) (c_lows : (Nat → Int64)) (p1 : Int32) (p2 : Int32) : ctI0 l D tc yX10_terminalOf (Cond.code yX10_terminalOf cX10_terminalOf 7 (some .int) :: jtb) ({ frames := 2, cells := 0, slots := 0, locals := 42 } : Room) [.ref h_, .int p1, .int p2] [(h_, .inr (10, [.ref h_costs, .ref h_highs, .ref h_lows])), (h_costs, .inl (tc.1, n, .inl c_costs)), (h_highs, .inl (tc.2.1, n, .inr (.inl c_highs))), (h_lows, .inl (tc.2.1, n, .inr (.inl c_lows)))] (fX10_terminalOf n c_costs c_highs c_lows p1 p2) := by
  refine ctI0_of (lv0 := [(0, .ref h_), (1, .int p1), (2, .int p2)]) (by decide +kernel) (Nat.le_of_ble_eq_true rfl) rfl (fun X C => ?_)
  unfold fX10_terminalOf
  refine j_iload C d10_terminalOf_0 2 rfl ?_
  refine j_join 13 (fun v1 => [(h_, .inr (10, [.ref h_costs, .ref h_highs, .ref h_lows])), (h_costs, .inl (tc.1, n, .inl c_costs)), (h_highs, .inl (tc.2.1, n, .inr (.inl c_highs))), (h_lows, .inl (tc.2.1, n, .inr (.inl c_lows)))]) (fun v1 => []) (fun v1 => []) (fun v1 => ?_) (fun k2 hk2 => ?_)
  · refine j_const C d10_terminalOf_13 ?_
    exact j_iret0 C d10_terminalOf_15
  · refine j_if_lt C d10_terminalOf_1 ?_ ?_
    · exact j_sub [] rfl (hk2 _)
    · refine j_iload C d10_terminalOf_4 2 rfl ?_
      refine j_aload C d10_terminalOf_5 0 rfl ?_
      refine j_iload C d10_terminalOf_6 1 rfl ?_
      refine j_callVI0 (As := [.int p1]) C d10_terminalOf_7 mv10_33 (kX10_lengthOf _ _ tc n h_ h_costs (.ref h_highs) (.ref h_lows) c_costs p1) ⟨rfl, rfl, Nat.le_of_ble_eq_true rfl, Nat.le_of_ble_eq_true rfl⟩ rfl 0 rfl [0, 1] rfl rfl rfl (Nat.le_of_ble_eq_true rfl) (fun x3 => ?_)
      refine j_icmp_lt C d10_terminalOf_10 ?_ ?_
      · refine j_aload C d10_terminalOf_16 0 rfl ?_
        refine j_iload C d10_terminalOf_17 1 rfl ?_
        refine j_callVI0 (As := [.int p1]) C d10_terminalOf_18 mv10_33 (kX10_lengthOf _ _ tc n h_ h_costs (.ref h_highs) (.ref h_lows) c_costs p1) ⟨rfl, rfl, Nat.le_of_ble_eq_true rfl, Nat.le_of_ble_eq_true rfl⟩ rfl 0 rfl [0, 1] rfl rfl rfl (Nat.le_of_ble_eq_true rfl) (fun x4 => ?_)
        refine j_const C d10_terminalOf_21 ?_
        refine j_isub C d10_terminalOf_22 ?_
        refine j_iload C d10_terminalOf_23 2 rfl ?_
        refine j_isub C d10_terminalOf_24 ?_
        refine j_leti (fun x5 => ?_)
        refine j_istore C d10_terminalOf_25 (by decide) (lv' := [(3, .int x5), (0, .ref h_), (1, .int p1), (2, .int p2)]) rfl ?_
        refine j_iload C d10_terminalOf_26 0 rfl ?_
        refine j_const C d10_terminalOf_27 ?_
        refine j_join 47 (fun v6 => [(h_, .inr (10, [.ref h_costs, .ref h_highs, .ref h_lows])), (h_costs, .inl (tc.1, n, .inl c_costs)), (h_highs, .inl (tc.2.1, n, .inr (.inl c_highs))), (h_lows, .inl (tc.2.1, n, .inr (.inl c_lows)))]) (fun v6 => [(3, .int x5)]) (fun v6 => [.long v6]) (fun v6 => ?_) (fun k9 hk9 => ?_)
        · refine j_lstore C d10_terminalOf_47 (by decide) (lv' := [(4, .long v6), (3, .int x5)]) rfl ?_
          refine j_iload C d10_terminalOf_49 1 rfl ?_
          refine j_const C d10_terminalOf_50 ?_
          refine j_join 63 (fun v7 => [(h_, .inr (10, [.ref h_costs, .ref h_highs, .ref h_lows])), (h_costs, .inl (tc.1, n, .inl c_costs)), (h_highs, .inl (tc.2.1, n, .inr (.inl c_highs))), (h_lows, .inl (tc.2.1, n, .inr (.inl c_lows)))]) (fun v7 => [(4, .long v6)]) (fun v7 => [.int v7]) (fun v7 => ?_) (fun k8 hk8 => ?_)
          · refine j_istore C d10_terminalOf_63 (by decide) (lv' := [(6, .int v7), (4, .long v6)]) rfl ?_
            refine j_lload C d10_terminalOf_65 1 rfl ?_
            refine j_const C d10_terminalOf_67 ?_
            refine j_iload C d10_terminalOf_68 0 rfl ?_
            refine j_imul C d10_terminalOf_70 ?_
            refine j_lshr C d10_terminalOf_71 ?_
            refine j_l2i C d10_terminalOf_72 ?_
            refine j_const C d10_terminalOf_73 ?_
            refine j_iand C d10_terminalOf_75 ?_
            exact j_iret0 C d10_terminalOf_76
          · refine j_icmp_ge C d10_terminalOf_52 ?_ ?_
            · refine j_iload C d10_terminalOf_59 1 rfl ?_
              refine j_const C d10_terminalOf_60 ?_
              refine j_isub C d10_terminalOf_62 ?_
              exact j_sub [0] rfl (hk8 _)
            · refine j_iload C d10_terminalOf_55 1 rfl ?_
              refine j_goto C d10_terminalOf_56 ?_
              exact j_sub [0] rfl (hk8 _)
        · refine j_icmp_ge C d10_terminalOf_29 ?_ ?_
          · refine j_aload C d10_terminalOf_41 1 rfl ?_
            refine j_get C d10_terminalOf_42 fl10_21 0 rfl rfl ?_
            refine j_iload C d10_terminalOf_45 2 rfl ?_
            refine j_lald C d10_terminalOf_46 2 rfl (fun x10 => ?_)
            exact j_sub [0] rfl (hk9 _)
          · refine j_aload C d10_terminalOf_32 1 rfl ?_
            refine j_get C d10_terminalOf_33 fl10_25 0 rfl rfl ?_
            refine j_iload C d10_terminalOf_36 2 rfl ?_
            refine j_lald C d10_terminalOf_37 3 rfl (fun x11 => ?_)
            refine j_goto C d10_terminalOf_38 ?_
            exact j_sub [0] rfl (hk9 _)
      · exact j_sub [] rfl (hk2 _)

theorem d11_productionCount_0 : jda cX11_productionCount 0 0 1 := Or.inl ⟨0, by decide +kernel⟩
theorem d11_productionCount_1 : jd cX11_productionCount 1 (.getfield 12) 3 4 := by decide +kernel
theorem d11_productionCount_4 : jd cX11_productionCount 4 (.getfield 112) 3 7 := by decide +kernel
theorem d11_productionCount_7 : decode cX11_productionCount 7 = .ok (.ireturn, 1) := by decide +kernel
set_option maxHeartbeats 4000000 in
set_option maxRecDepth 100000 in
theorem kX11_productionCount (l : Launch) (D : va_G) (tc : jTC) (h_ h_rules : Nat) (g_history g_sets g_setsBefore g_table g_failure g_input g_parser g_examples g_repairer g_rules_codes : Value) (c_rules_count : Int32) : ctI0 l D tc yX11_productionCount (Cond.code yX11_productionCount cX11_productionCount 1 (some .int) :: jtb) ({ frames := 0, cells := 0, slots := 0, locals := 0 } : Room) [.ref h_] [(h_, .inr (11, [.ref h_rules, g_history, g_sets, g_setsBefore, g_table, g_failure, g_input, g_parser, g_examples, g_repairer])), (h_rules, .inr (6, [g_rules_codes, .int c_rules_count]))] (fX11_productionCount c_rules_count) := by
  refine ctI0_of (lv0 := [(0, .ref h_)]) (by decide +kernel) (Nat.le_of_ble_eq_true rfl) rfl (fun X C => ?_)
  unfold fX11_productionCount
  refine j_aload C d11_productionCount_0 0 rfl ?_
  refine j_get C d11_productionCount_1 fl11_12 0 rfl rfl ?_
  refine j_get C d11_productionCount_4 fl11_112 1 rfl rfl ?_
  exact j_iret0 C d11_productionCount_7

theorem d11_leftSide_0 : jda cX11_leftSide 0 0 1 := Or.inl ⟨0, by decide +kernel⟩
theorem d11_leftSide_1 : jd cX11_leftSide 1 (.getfield 12) 3 4 := by decide +kernel
theorem d11_leftSide_4 : jdi cX11_leftSide 4 1 5 := Or.inl ⟨1, by decide +kernel⟩
theorem d11_leftSide_5 : jd cX11_leftSide 5 (.invokevirtual 127) 3 8 := by decide +kernel
theorem d11_leftSide_8 : jdb cX11_leftSide 8 (.ifCond .eq 18) 18 26 11 := by decide +kernel
theorem d11_leftSide_11 : jda cX11_leftSide 11 0 12 := Or.inl ⟨0, by decide +kernel⟩
theorem d11_leftSide_12 : jd cX11_leftSide 12 (.getfield 12) 3 15 := by decide +kernel
theorem d11_leftSide_15 : jd cX11_leftSide 15 (.getfield 136) 3 18 := by decide +kernel
theorem d11_leftSide_18 : jdi cX11_leftSide 18 1 19 := Or.inl ⟨1, by decide +kernel⟩
theorem d11_leftSide_19 : jd cX11_leftSide 19 (.iaload) 1 20 := by decide +kernel
theorem d11_leftSide_20 : jd cX11_leftSide 20 (.invokestatic 140) 3 23 := by decide +kernel
theorem d11_leftSide_23 : jdb cX11_leftSide 23 (.goto 4) 4 27 26 := by decide +kernel
theorem d11_leftSide_26 : jdk cX11_leftSide 26 (-1) 27 := Or.inl ⟨(-1), by decide +kernel⟩
theorem d11_leftSide_27 : decode cX11_leftSide 27 = .ok (.ireturn, 1) := by decide +kernel
set_option maxHeartbeats 4000000 in
set_option maxRecDepth 100000 in
theorem kX11_leftSide (l : Launch) (D : va_G) (tc : jTC) (h_ h_rules h_rules_codes : Nat) (g_history g_sets g_setsBefore g_table g_failure g_input g_parser g_examples g_repairer : Value) (c_rules_codes : (Nat → Int32)) (c_rules_count : Int32) (p1 : Int32) : ctI0 l D tc yX11_leftSide (Cond.code yX11_leftSide cX11_leftSide 2 (some .int) :: jtb) ({ frames := 1, cells := 0, slots := 0, locals := 21 } : Room) [.ref h_, .int p1] [(h_, .inr (11, [.ref h_rules, g_history, g_sets, g_setsBefore, g_table, g_failure, g_input, g_parser, g_examples, g_repairer])), (h_rules, .inr (6, [.ref h_rules_codes, .int c_rules_count])), (h_rules_codes, .inl (tc.1, 24, .inl c_rules_codes))] (fX11_leftSide c_rules_codes c_rules_count p1) := by
  refine ctI0_of (lv0 := [(0, .ref h_), (1, .int p1)]) (by decide +kernel) (Nat.le_of_ble_eq_true rfl) rfl (fun X C => ?_)
  unfold fX11_leftSide
  refine j_aload C d11_leftSide_0 0 rfl ?_
  refine j_get C d11_leftSide_1 fl11_12 0 rfl rfl ?_
  refine j_iload C d11_leftSide_4 1 rfl ?_
  refine j_callVI0 (As := [.int p1]) C d11_leftSide_5 mv11_127 (kX6_has _ _ tc h_rules (.ref h_rules_codes) c_rules_count p1) ⟨rfl, rfl, Nat.le_of_ble_eq_true rfl, Nat.le_of_ble_eq_true rfl⟩ rfl 1 rfl [1] rfl rfl rfl (Nat.le_of_ble_eq_true rfl) (fun x1 => ?_)
  refine j_join 27 (fun v2 => [(h_, .inr (11, [.ref h_rules, g_history, g_sets, g_setsBefore, g_table, g_failure, g_input, g_parser, g_examples, g_repairer])), (h_rules, .inr (6, [.ref h_rules_codes, .int c_rules_count])), (h_rules_codes, .inl (tc.1, 24, .inl c_rules_codes))]) (fun v2 => []) (fun v2 => [.int v2]) (fun v2 => ?_) (fun k3 hk3 => ?_)
  · exact j_iret0 C d11_leftSide_27
  · refine j_if_eq C d11_leftSide_8 ?_ ?_
    · refine j_const C d11_leftSide_26 ?_
      exact j_sub [] rfl (hk3 _)
    · refine j_aload C d11_leftSide_11 0 rfl ?_
      refine j_get C d11_leftSide_12 fl11_12 0 rfl rfl ?_
      refine j_get C d11_leftSide_15 fl11_136 1 rfl rfl ?_
      refine j_iload C d11_leftSide_18 1 rfl ?_
      refine j_iald C d11_leftSide_19 2 rfl (fun x4 => ?_)
      refine j_callSI0 (As := [.int x4]) C d11_leftSide_20 ms11_140 (kX6_leftOf _ _ tc x4) ⟨rfl, rfl, Nat.le_of_ble_eq_true rfl, Nat.le_of_ble_eq_true rfl⟩ rfl [] rfl rfl rfl (Nat.le_of_ble_eq_true rfl) (fun x5 => ?_)
      refine j_goto C d11_leftSide_23 ?_
      exact j_sub [] rfl (hk3 _)

theorem d11_rightLength_0 : jda cX11_rightLength 0 0 1 := Or.inl ⟨0, by decide +kernel⟩
theorem d11_rightLength_1 : jd cX11_rightLength 1 (.getfield 12) 3 4 := by decide +kernel
theorem d11_rightLength_4 : jdi cX11_rightLength 4 1 5 := Or.inl ⟨1, by decide +kernel⟩
theorem d11_rightLength_5 : jd cX11_rightLength 5 (.invokevirtual 127) 3 8 := by decide +kernel
theorem d11_rightLength_8 : jdb cX11_rightLength 8 (.ifCond .eq 18) 18 26 11 := by decide +kernel
theorem d11_rightLength_11 : jda cX11_rightLength 11 0 12 := Or.inl ⟨0, by decide +kernel⟩
theorem d11_rightLength_12 : jd cX11_rightLength 12 (.getfield 12) 3 15 := by decide +kernel
theorem d11_rightLength_15 : jd cX11_rightLength 15 (.getfield 136) 3 18 := by decide +kernel
theorem d11_rightLength_18 : jdi cX11_rightLength 18 1 19 := Or.inl ⟨1, by decide +kernel⟩
theorem d11_rightLength_19 : jd cX11_rightLength 19 (.iaload) 1 20 := by decide +kernel
theorem d11_rightLength_20 : jd cX11_rightLength 20 (.invokestatic 143) 3 23 := by decide +kernel
theorem d11_rightLength_23 : jdb cX11_rightLength 23 (.goto 4) 4 27 26 := by decide +kernel
theorem d11_rightLength_26 : jdk cX11_rightLength 26 (-1) 27 := Or.inl ⟨(-1), by decide +kernel⟩
theorem d11_rightLength_27 : decode cX11_rightLength 27 = .ok (.ireturn, 1) := by decide +kernel
set_option maxHeartbeats 4000000 in
set_option maxRecDepth 100000 in
theorem kX11_rightLength (l : Launch) (D : va_G) (tc : jTC) (h_ h_rules h_rules_codes : Nat) (g_history g_sets g_setsBefore g_table g_failure g_input g_parser g_examples g_repairer : Value) (c_rules_codes : (Nat → Int32)) (c_rules_count : Int32) (p1 : Int32) : ctI0 l D tc yX11_rightLength (Cond.code yX11_rightLength cX11_rightLength 2 (some .int) :: jtb) ({ frames := 1, cells := 0, slots := 0, locals := 21 } : Room) [.ref h_, .int p1] [(h_, .inr (11, [.ref h_rules, g_history, g_sets, g_setsBefore, g_table, g_failure, g_input, g_parser, g_examples, g_repairer])), (h_rules, .inr (6, [.ref h_rules_codes, .int c_rules_count])), (h_rules_codes, .inl (tc.1, 24, .inl c_rules_codes))] (fX11_rightLength c_rules_codes c_rules_count p1) := by
  refine ctI0_of (lv0 := [(0, .ref h_), (1, .int p1)]) (by decide +kernel) (Nat.le_of_ble_eq_true rfl) rfl (fun X C => ?_)
  unfold fX11_rightLength
  refine j_aload C d11_rightLength_0 0 rfl ?_
  refine j_get C d11_rightLength_1 fl11_12 0 rfl rfl ?_
  refine j_iload C d11_rightLength_4 1 rfl ?_
  refine j_callVI0 (As := [.int p1]) C d11_rightLength_5 mv11_127 (kX6_has _ _ tc h_rules (.ref h_rules_codes) c_rules_count p1) ⟨rfl, rfl, Nat.le_of_ble_eq_true rfl, Nat.le_of_ble_eq_true rfl⟩ rfl 1 rfl [1] rfl rfl rfl (Nat.le_of_ble_eq_true rfl) (fun x1 => ?_)
  refine j_join 27 (fun v2 => [(h_, .inr (11, [.ref h_rules, g_history, g_sets, g_setsBefore, g_table, g_failure, g_input, g_parser, g_examples, g_repairer])), (h_rules, .inr (6, [.ref h_rules_codes, .int c_rules_count])), (h_rules_codes, .inl (tc.1, 24, .inl c_rules_codes))]) (fun v2 => []) (fun v2 => [.int v2]) (fun v2 => ?_) (fun k3 hk3 => ?_)
  · exact j_iret0 C d11_rightLength_27
  · refine j_if_eq C d11_rightLength_8 ?_ ?_
    · refine j_const C d11_rightLength_26 ?_
      exact j_sub [] rfl (hk3 _)
    · refine j_aload C d11_rightLength_11 0 rfl ?_
      refine j_get C d11_rightLength_12 fl11_12 0 rfl rfl ?_
      refine j_get C d11_rightLength_15 fl11_136 1 rfl rfl ?_
      refine j_iload C d11_rightLength_18 1 rfl ?_
      refine j_iald C d11_rightLength_19 2 rfl (fun x4 => ?_)
      refine j_callSI0 (As := [.int x4]) C d11_rightLength_20 ms11_143 (kX6_lengthOf _ _ tc x4) ⟨rfl, rfl, Nat.le_of_ble_eq_true rfl, Nat.le_of_ble_eq_true rfl⟩ rfl [] rfl rfl rfl (Nat.le_of_ble_eq_true rfl) (fun x5 => ?_)
      refine j_goto C d11_rightLength_23 ?_
      exact j_sub [] rfl (hk3 _)

theorem d11_rightSymbol_0 : jda cX11_rightSymbol 0 0 1 := Or.inl ⟨0, by decide +kernel⟩
theorem d11_rightSymbol_1 : jd cX11_rightSymbol 1 (.getfield 12) 3 4 := by decide +kernel
theorem d11_rightSymbol_4 : jdi cX11_rightSymbol 4 1 5 := Or.inl ⟨1, by decide +kernel⟩
theorem d11_rightSymbol_5 : jd cX11_rightSymbol 5 (.invokevirtual 127) 3 8 := by decide +kernel
theorem d11_rightSymbol_8 : jdb cX11_rightSymbol 8 (.ifCond .eq 23) 23 31 11 := by decide +kernel
theorem d11_rightSymbol_11 : jdi cX11_rightSymbol 11 2 12 := Or.inl ⟨2, by decide +kernel⟩
theorem d11_rightSymbol_12 : jdb cX11_rightSymbol 12 (.ifCond .lt 19) 19 31 15 := by decide +kernel
theorem d11_rightSymbol_15 : jdi cX11_rightSymbol 15 2 16 := Or.inl ⟨2, by decide +kernel⟩
theorem d11_rightSymbol_16 : jda cX11_rightSymbol 16 0 17 := Or.inl ⟨0, by decide +kernel⟩
theorem d11_rightSymbol_17 : jd cX11_rightSymbol 17 (.getfield 12) 3 20 := by decide +kernel
theorem d11_rightSymbol_20 : jd cX11_rightSymbol 20 (.getfield 136) 3 23 := by decide +kernel
theorem d11_rightSymbol_23 : jdi cX11_rightSymbol 23 1 24 := Or.inl ⟨1, by decide +kernel⟩
theorem d11_rightSymbol_24 : jd cX11_rightSymbol 24 (.iaload) 1 25 := by decide +kernel
theorem d11_rightSymbol_25 : jd cX11_rightSymbol 25 (.invokestatic 143) 3 28 := by decide +kernel
theorem d11_rightSymbol_28 : jdb cX11_rightSymbol 28 (.if_icmp .lt 5) 5 33 31 := by decide +kernel
theorem d11_rightSymbol_31 : jdk cX11_rightSymbol 31 (-1) 32 := Or.inl ⟨(-1), by decide +kernel⟩
theorem d11_rightSymbol_32 : decode cX11_rightSymbol 32 = .ok (.ireturn, 1) := by decide +kernel
theorem d11_rightSymbol_33 : jda cX11_rightSymbol 33 0 34 := Or.inl ⟨0, by decide +kernel⟩
theorem d11_rightSymbol_34 : jd cX11_rightSymbol 34 (.getfield 12) 3 37 := by decide +kernel
theorem d11_rightSymbol_37 : jd cX11_rightSymbol 37 (.getfield 136) 3 40 := by decide +kernel
theorem d11_rightSymbol_40 : jdi cX11_rightSymbol 40 1 41 := Or.inl ⟨1, by decide +kernel⟩
theorem d11_rightSymbol_41 : jd cX11_rightSymbol 41 (.iaload) 1 42 := by decide +kernel
theorem d11_rightSymbol_42 : jdi cX11_rightSymbol 42 2 43 := Or.inl ⟨2, by decide +kernel⟩
theorem d11_rightSymbol_43 : jd cX11_rightSymbol 43 (.invokestatic 146) 3 46 := by decide +kernel
theorem d11_rightSymbol_46 : decode cX11_rightSymbol 46 = .ok (.ireturn, 1) := by decide +kernel
set_option maxHeartbeats 4000000 in
set_option maxRecDepth 100000 in
theorem kX11_rightSymbol (l : Launch) (D : va_G) (tc : jTC) (h_ h_rules h_rules_codes : Nat) (g_history g_sets g_setsBefore g_table g_failure g_input g_parser g_examples g_repairer : Value) (c_rules_codes : (Nat → Int32)) (c_rules_count : Int32) (p1 : Int32) (p2 : Int32) : ctI0 l D tc yX11_rightSymbol (Cond.code yX11_rightSymbol cX11_rightSymbol 3 (some .int) :: jtb) ({ frames := 1, cells := 0, slots := 0, locals := 21 } : Room) [.ref h_, .int p1, .int p2] [(h_, .inr (11, [.ref h_rules, g_history, g_sets, g_setsBefore, g_table, g_failure, g_input, g_parser, g_examples, g_repairer])), (h_rules, .inr (6, [.ref h_rules_codes, .int c_rules_count])), (h_rules_codes, .inl (tc.1, 24, .inl c_rules_codes))] (fX11_rightSymbol c_rules_codes c_rules_count p1 p2) := by
  refine ctI0_of (lv0 := [(0, .ref h_), (1, .int p1), (2, .int p2)]) (by decide +kernel) (Nat.le_of_ble_eq_true rfl) rfl (fun X C => ?_)
  unfold fX11_rightSymbol
  refine j_aload C d11_rightSymbol_0 0 rfl ?_
  refine j_get C d11_rightSymbol_1 fl11_12 0 rfl rfl ?_
  refine j_iload C d11_rightSymbol_4 1 rfl ?_
  refine j_callVI0 (As := [.int p1]) C d11_rightSymbol_5 mv11_127 (kX6_has _ _ tc h_rules (.ref h_rules_codes) c_rules_count p1) ⟨rfl, rfl, Nat.le_of_ble_eq_true rfl, Nat.le_of_ble_eq_true rfl⟩ rfl 1 rfl [1] rfl rfl rfl (Nat.le_of_ble_eq_true rfl) (fun x1 => ?_)
  refine j_join 31 (fun v2 => [(h_, .inr (11, [.ref h_rules, g_history, g_sets, g_setsBefore, g_table, g_failure, g_input, g_parser, g_examples, g_repairer])), (h_rules, .inr (6, [.ref h_rules_codes, .int c_rules_count])), (h_rules_codes, .inl (tc.1, 24, .inl c_rules_codes))]) (fun v2 => []) (fun v2 => []) (fun v2 => ?_) (fun k3 hk3 => ?_)
  · refine j_const C d11_rightSymbol_31 ?_
    exact j_iret0 C d11_rightSymbol_32
  · refine j_if_eq C d11_rightSymbol_8 ?_ ?_
    · exact j_sub [] rfl (hk3 _)
    · refine j_iload C d11_rightSymbol_11 2 rfl ?_
      refine j_if_lt C d11_rightSymbol_12 ?_ ?_
      · exact j_sub [] rfl (hk3 _)
      · refine j_iload C d11_rightSymbol_15 2 rfl ?_
        refine j_aload C d11_rightSymbol_16 0 rfl ?_
        refine j_get C d11_rightSymbol_17 fl11_12 0 rfl rfl ?_
        refine j_get C d11_rightSymbol_20 fl11_136 1 rfl rfl ?_
        refine j_iload C d11_rightSymbol_23 1 rfl ?_
        refine j_iald C d11_rightSymbol_24 2 rfl (fun x4 => ?_)
        refine j_callSI0 (As := [.int x4]) C d11_rightSymbol_25 ms11_143 (kX6_lengthOf _ _ tc x4) ⟨rfl, rfl, Nat.le_of_ble_eq_true rfl, Nat.le_of_ble_eq_true rfl⟩ rfl [] rfl rfl rfl (Nat.le_of_ble_eq_true rfl) (fun x5 => ?_)
        refine j_icmp_lt C d11_rightSymbol_28 ?_ ?_
        · refine j_aload C d11_rightSymbol_33 0 rfl ?_
          refine j_get C d11_rightSymbol_34 fl11_12 0 rfl rfl ?_
          refine j_get C d11_rightSymbol_37 fl11_136 1 rfl rfl ?_
          refine j_iload C d11_rightSymbol_40 1 rfl ?_
          refine j_iald C d11_rightSymbol_41 2 rfl (fun x6 => ?_)
          refine j_iload C d11_rightSymbol_42 2 rfl ?_
          refine j_callSI0 (As := [.int x6, .int p2]) C d11_rightSymbol_43 ms11_146 (kX6_symbolOf _ _ tc x6 p2) ⟨rfl, rfl, Nat.le_of_ble_eq_true rfl, Nat.le_of_ble_eq_true rfl⟩ rfl [] rfl rfl rfl (Nat.le_of_ble_eq_true rfl) (fun x7 => ?_)
          exact j_iret0 C d11_rightSymbol_46
        · exact j_sub [] rfl (hk3 _)

theorem d11_isNonterminal_0 : jdi cX11_isNonterminal 0 0 1 := Or.inl ⟨0, by decide +kernel⟩
theorem d11_isNonterminal_1 : jdb cX11_isNonterminal 1 (.ifCond .lt 13) 13 14 4 := by decide +kernel
theorem d11_isNonterminal_4 : jdi cX11_isNonterminal 4 0 5 := Or.inl ⟨0, by decide +kernel⟩
theorem d11_isNonterminal_5 : jdk cX11_isNonterminal 5 8 7 := Or.inr (Or.inl ⟨8, by decide +kernel⟩)
theorem d11_isNonterminal_7 : jdb cX11_isNonterminal 7 (.if_icmp .ge 7) 7 14 10 := by decide +kernel
theorem d11_isNonterminal_10 : jdk cX11_isNonterminal 10 1 11 := Or.inl ⟨1, by decide +kernel⟩
theorem d11_isNonterminal_11 : jdb cX11_isNonterminal 11 (.goto 4) 4 15 14 := by decide +kernel
theorem d11_isNonterminal_14 : jdk cX11_isNonterminal 14 0 15 := Or.inl ⟨0, by decide +kernel⟩
theorem d11_isNonterminal_15 : decode cX11_isNonterminal 15 = .ok (.ireturn, 1) := by decide +kernel
set_option maxHeartbeats 4000000 in
set_option maxRecDepth 100000 in
theorem kX11_isNonterminal (l : Launch) (D : va_G) (tc : jTC) (p0 : Int32) : ctI0 l D tc yX11_isNonterminal (Cond.code yX11_isNonterminal cX11_isNonterminal 1 (some .boolean) :: jtb) ({ frames := 0, cells := 0, slots := 0, locals := 0 } : Room) [.int p0] [] (fX11_isNonterminal p0) := by
  refine ctI0_of (lv0 := [(0, .int p0)]) (by decide +kernel) (Nat.le_of_ble_eq_true rfl) rfl (fun X C => ?_)
  unfold fX11_isNonterminal
  refine j_iload C d11_isNonterminal_0 0 rfl ?_
  refine j_join 15 (fun v1 => []) (fun v1 => []) (fun v1 => [.int v1]) (fun v1 => ?_) (fun k2 hk2 => ?_)
  · refine j_gz (fun hz => ?_)
    exact j_zret0 C hz d11_isNonterminal_15
  · refine j_join 14 (fun v3 => []) (fun v3 => []) (fun v3 => []) (fun v3 => ?_) (fun k4 hk4 => ?_)
    · refine j_const C d11_isNonterminal_14 ?_
      exact hk2 _
    · refine j_if_lt C d11_isNonterminal_1 ?_ ?_
      · exact j_sub [] rfl (hk4 _)
      · refine j_iload C d11_isNonterminal_4 0 rfl ?_
        refine j_const C d11_isNonterminal_5 ?_
        refine j_icmp_ge C d11_isNonterminal_7 ?_ ?_
        · exact j_sub [] rfl (hk4 _)
        · refine j_const C d11_isNonterminal_10 ?_
          refine j_goto C d11_isNonterminal_11 ?_
          exact j_sub [] rfl (hk2 _)

theorem d11_nullable_0 : jdi cX11_nullable 0 1 1 := Or.inl ⟨1, by decide +kernel⟩
theorem d11_nullable_1 : jd cX11_nullable 1 (.invokestatic 90) 3 4 := by decide +kernel
theorem d11_nullable_4 : jdb cX11_nullable 4 (.ifCond .eq 17) 17 21 7 := by decide +kernel
theorem d11_nullable_7 : jda cX11_nullable 7 0 8 := Or.inl ⟨0, by decide +kernel⟩
theorem d11_nullable_8 : jd cX11_nullable 8 (.getfield 26) 3 11 := by decide +kernel
theorem d11_nullable_11 : jd cX11_nullable 11 (.getfield 150) 3 14 := by decide +kernel
theorem d11_nullable_14 : jdi cX11_nullable 14 1 15 := Or.inl ⟨1, by decide +kernel⟩
theorem d11_nullable_15 : jd cX11_nullable 15 (.invokestatic 153) 3 18 := by decide +kernel
theorem d11_nullable_18 : jdb cX11_nullable 18 (.goto 4) 4 22 21 := by decide +kernel
theorem d11_nullable_21 : jdk cX11_nullable 21 (-1) 22 := Or.inl ⟨(-1), by decide +kernel⟩
theorem d11_nullable_22 : decode cX11_nullable 22 = .ok (.ireturn, 1) := by decide +kernel
set_option maxHeartbeats 4000000 in
set_option maxRecDepth 100000 in
theorem kX11_nullable (l : Launch) (D : va_G) (tc : jTC) (h_ h_sets : Nat) (g_rules g_history g_setsBefore g_table g_failure g_input g_parser g_examples g_repairer g_sets_first g_sets_follow g_sets_begins : Value) (c_sets_nullable : Int32) (p1 : Int32) : ctI0 l D tc yX11_nullable (Cond.code yX11_nullable cX11_nullable 2 (some .int) :: jtb) ({ frames := 1, cells := 0, slots := 0, locals := 21 } : Room) [.ref h_, .int p1] [(h_, .inr (11, [g_rules, g_history, .ref h_sets, g_setsBefore, g_table, g_failure, g_input, g_parser, g_examples, g_repairer])), (h_sets, .inr (7, [.int c_sets_nullable, g_sets_first, g_sets_follow, g_sets_begins]))] (fX11_nullable c_sets_nullable p1) := by
  refine ctI0_of (lv0 := [(0, .ref h_), (1, .int p1)]) (by decide +kernel) (Nat.le_of_ble_eq_true rfl) rfl (fun X C => ?_)
  unfold fX11_nullable
  refine j_iload C d11_nullable_0 1 rfl ?_
  refine j_callSI0 (As := [.int p1]) C d11_nullable_1 ms11_90 (kX11_isNonterminal _ _ tc p1) ⟨rfl, rfl, Nat.le_of_ble_eq_true rfl, Nat.le_of_ble_eq_true rfl⟩ rfl [] rfl rfl rfl (Nat.le_of_ble_eq_true rfl) (fun x1 => ?_)
  refine j_join 22 (fun v2 => [(h_, .inr (11, [g_rules, g_history, .ref h_sets, g_setsBefore, g_table, g_failure, g_input, g_parser, g_examples, g_repairer])), (h_sets, .inr (7, [.int c_sets_nullable, g_sets_first, g_sets_follow, g_sets_begins]))]) (fun v2 => []) (fun v2 => [.int v2]) (fun v2 => ?_) (fun k3 hk3 => ?_)
  · exact j_iret0 C d11_nullable_22
  · refine j_if_eq C d11_nullable_4 ?_ ?_
    · refine j_const C d11_nullable_21 ?_
      exact j_sub [] rfl (hk3 _)
    · refine j_aload C d11_nullable_7 0 rfl ?_
      refine j_get C d11_nullable_8 fl11_26 0 rfl rfl ?_
      refine j_get C d11_nullable_11 fl11_150 1 rfl rfl ?_
      refine j_iload C d11_nullable_14 1 rfl ?_
      refine j_callSI0 (As := [.int c_sets_nullable, .int p1]) C d11_nullable_15 ms11_153 (kX11_bit _ _ tc c_sets_nullable p1) ⟨rfl, rfl, Nat.le_of_ble_eq_true rfl, Nat.le_of_ble_eq_true rfl⟩ rfl [] rfl rfl rfl (Nat.le_of_ble_eq_true rfl) (fun x4 => ?_)
      refine j_goto C d11_nullable_18 ?_
      exact j_sub [] rfl (hk3 _)

theorem d11_firstSet_0 : jdi cX11_firstSet 0 1 1 := Or.inl ⟨1, by decide +kernel⟩
theorem d11_firstSet_1 : jd cX11_firstSet 1 (.invokestatic 90) 3 4 := by decide +kernel
theorem d11_firstSet_4 : jdb cX11_firstSet 4 (.ifCond .eq 15) 15 19 7 := by decide +kernel
theorem d11_firstSet_7 : jda cX11_firstSet 7 0 8 := Or.inl ⟨0, by decide +kernel⟩
theorem d11_firstSet_8 : jd cX11_firstSet 8 (.getfield 26) 3 11 := by decide +kernel
theorem d11_firstSet_11 : jd cX11_firstSet 11 (.getfield 156) 3 14 := by decide +kernel
theorem d11_firstSet_14 : jdi cX11_firstSet 14 1 15 := Or.inl ⟨1, by decide +kernel⟩
theorem d11_firstSet_15 : jd cX11_firstSet 15 (.iaload) 1 16 := by decide +kernel
theorem d11_firstSet_16 : jdb cX11_firstSet 16 (.goto 4) 4 20 19 := by decide +kernel
theorem d11_firstSet_19 : jdk cX11_firstSet 19 (-1) 20 := Or.inl ⟨(-1), by decide +kernel⟩
theorem d11_firstSet_20 : decode cX11_firstSet 20 = .ok (.ireturn, 1) := by decide +kernel
set_option maxHeartbeats 4000000 in
set_option maxRecDepth 100000 in
theorem kX11_firstSet (l : Launch) (D : va_G) (tc : jTC) (h_ h_sets h_sets_first : Nat) (g_rules g_history g_setsBefore g_table g_failure g_input g_parser g_examples g_repairer g_sets_nullable g_sets_follow g_sets_begins : Value) (c_sets_first : (Nat → Int32)) (p1 : Int32) : ctI0 l D tc yX11_firstSet (Cond.code yX11_firstSet cX11_firstSet 2 (some .int) :: jtb) ({ frames := 1, cells := 0, slots := 0, locals := 20 } : Room) [.ref h_, .int p1] [(h_, .inr (11, [g_rules, g_history, .ref h_sets, g_setsBefore, g_table, g_failure, g_input, g_parser, g_examples, g_repairer])), (h_sets, .inr (7, [g_sets_nullable, .ref h_sets_first, g_sets_follow, g_sets_begins])), (h_sets_first, .inl (tc.1, 8, .inl c_sets_first))] (fX11_firstSet c_sets_first p1) := by
  refine ctI0_of (lv0 := [(0, .ref h_), (1, .int p1)]) (by decide +kernel) (Nat.le_of_ble_eq_true rfl) rfl (fun X C => ?_)
  unfold fX11_firstSet
  refine j_iload C d11_firstSet_0 1 rfl ?_
  refine j_callSI0 (As := [.int p1]) C d11_firstSet_1 ms11_90 (kX11_isNonterminal _ _ tc p1) ⟨rfl, rfl, Nat.le_of_ble_eq_true rfl, Nat.le_of_ble_eq_true rfl⟩ rfl [] rfl rfl rfl (Nat.le_of_ble_eq_true rfl) (fun x1 => ?_)
  refine j_join 20 (fun v2 => [(h_, .inr (11, [g_rules, g_history, .ref h_sets, g_setsBefore, g_table, g_failure, g_input, g_parser, g_examples, g_repairer])), (h_sets, .inr (7, [g_sets_nullable, .ref h_sets_first, g_sets_follow, g_sets_begins])), (h_sets_first, .inl (tc.1, 8, .inl c_sets_first))]) (fun v2 => []) (fun v2 => [.int v2]) (fun v2 => ?_) (fun k3 hk3 => ?_)
  · exact j_iret0 C d11_firstSet_20
  · refine j_if_eq C d11_firstSet_4 ?_ ?_
    · refine j_const C d11_firstSet_19 ?_
      exact j_sub [] rfl (hk3 _)
    · refine j_aload C d11_firstSet_7 0 rfl ?_
      refine j_get C d11_firstSet_8 fl11_26 0 rfl rfl ?_
      refine j_get C d11_firstSet_11 fl11_156 1 rfl rfl ?_
      refine j_iload C d11_firstSet_14 1 rfl ?_
      refine j_iald C d11_firstSet_15 2 rfl (fun x4 => ?_)
      refine j_goto C d11_firstSet_16 ?_
      exact j_sub [] rfl (hk3 _)

theorem d11_followSet_0 : jdi cX11_followSet 0 1 1 := Or.inl ⟨1, by decide +kernel⟩
theorem d11_followSet_1 : jd cX11_followSet 1 (.invokestatic 90) 3 4 := by decide +kernel
theorem d11_followSet_4 : jdb cX11_followSet 4 (.ifCond .eq 15) 15 19 7 := by decide +kernel
theorem d11_followSet_7 : jda cX11_followSet 7 0 8 := Or.inl ⟨0, by decide +kernel⟩
theorem d11_followSet_8 : jd cX11_followSet 8 (.getfield 26) 3 11 := by decide +kernel
theorem d11_followSet_11 : jd cX11_followSet 11 (.getfield 159) 3 14 := by decide +kernel
theorem d11_followSet_14 : jdi cX11_followSet 14 1 15 := Or.inl ⟨1, by decide +kernel⟩
theorem d11_followSet_15 : jd cX11_followSet 15 (.iaload) 1 16 := by decide +kernel
theorem d11_followSet_16 : jdb cX11_followSet 16 (.goto 4) 4 20 19 := by decide +kernel
theorem d11_followSet_19 : jdk cX11_followSet 19 (-1) 20 := Or.inl ⟨(-1), by decide +kernel⟩
theorem d11_followSet_20 : decode cX11_followSet 20 = .ok (.ireturn, 1) := by decide +kernel
set_option maxHeartbeats 4000000 in
set_option maxRecDepth 100000 in
theorem kX11_followSet (l : Launch) (D : va_G) (tc : jTC) (h_ h_sets h_sets_follow : Nat) (g_rules g_history g_setsBefore g_table g_failure g_input g_parser g_examples g_repairer g_sets_nullable g_sets_first g_sets_begins : Value) (c_sets_follow : (Nat → Int32)) (p1 : Int32) : ctI0 l D tc yX11_followSet (Cond.code yX11_followSet cX11_followSet 2 (some .int) :: jtb) ({ frames := 1, cells := 0, slots := 0, locals := 20 } : Room) [.ref h_, .int p1] [(h_, .inr (11, [g_rules, g_history, .ref h_sets, g_setsBefore, g_table, g_failure, g_input, g_parser, g_examples, g_repairer])), (h_sets, .inr (7, [g_sets_nullable, g_sets_first, .ref h_sets_follow, g_sets_begins])), (h_sets_follow, .inl (tc.1, 8, .inl c_sets_follow))] (fX11_followSet c_sets_follow p1) := by
  refine ctI0_of (lv0 := [(0, .ref h_), (1, .int p1)]) (by decide +kernel) (Nat.le_of_ble_eq_true rfl) rfl (fun X C => ?_)
  unfold fX11_followSet
  refine j_iload C d11_followSet_0 1 rfl ?_
  refine j_callSI0 (As := [.int p1]) C d11_followSet_1 ms11_90 (kX11_isNonterminal _ _ tc p1) ⟨rfl, rfl, Nat.le_of_ble_eq_true rfl, Nat.le_of_ble_eq_true rfl⟩ rfl [] rfl rfl rfl (Nat.le_of_ble_eq_true rfl) (fun x1 => ?_)
  refine j_join 20 (fun v2 => [(h_, .inr (11, [g_rules, g_history, .ref h_sets, g_setsBefore, g_table, g_failure, g_input, g_parser, g_examples, g_repairer])), (h_sets, .inr (7, [g_sets_nullable, g_sets_first, .ref h_sets_follow, g_sets_begins])), (h_sets_follow, .inl (tc.1, 8, .inl c_sets_follow))]) (fun v2 => []) (fun v2 => [.int v2]) (fun v2 => ?_) (fun k3 hk3 => ?_)
  · exact j_iret0 C d11_followSet_20
  · refine j_if_eq C d11_followSet_4 ?_ ?_
    · refine j_const C d11_followSet_19 ?_
      exact j_sub [] rfl (hk3 _)
    · refine j_aload C d11_followSet_7 0 rfl ?_
      refine j_get C d11_followSet_8 fl11_26 0 rfl rfl ?_
      refine j_get C d11_followSet_11 fl11_159 1 rfl rfl ?_
      refine j_iload C d11_followSet_14 1 rfl ?_
      refine j_iald C d11_followSet_15 2 rfl (fun x4 => ?_)
      refine j_goto C d11_followSet_16 ?_
      exact j_sub [] rfl (hk3 _)

theorem d11_selectSet_0 : jda cX11_selectSet 0 0 1 := Or.inl ⟨0, by decide +kernel⟩
theorem d11_selectSet_1 : jd cX11_selectSet 1 (.getfield 12) 3 4 := by decide +kernel
theorem d11_selectSet_4 : jdi cX11_selectSet 4 1 5 := Or.inl ⟨1, by decide +kernel⟩
theorem d11_selectSet_5 : jd cX11_selectSet 5 (.invokevirtual 127) 3 8 := by decide +kernel
theorem d11_selectSet_8 : jdb cX11_selectSet 8 (.ifCond .eq 15) 15 23 11 := by decide +kernel
theorem d11_selectSet_11 : jda cX11_selectSet 11 0 12 := Or.inl ⟨0, by decide +kernel⟩
theorem d11_selectSet_12 : jd cX11_selectSet 12 (.getfield 38) 3 15 := by decide +kernel
theorem d11_selectSet_15 : jd cX11_selectSet 15 (.getfield 162) 3 18 := by decide +kernel
theorem d11_selectSet_18 : jdi cX11_selectSet 18 1 19 := Or.inl ⟨1, by decide +kernel⟩
theorem d11_selectSet_19 : jd cX11_selectSet 19 (.iaload) 1 20 := by decide +kernel
theorem d11_selectSet_20 : jdb cX11_selectSet 20 (.goto 4) 4 24 23 := by decide +kernel
theorem d11_selectSet_23 : jdk cX11_selectSet 23 (-1) 24 := Or.inl ⟨(-1), by decide +kernel⟩
theorem d11_selectSet_24 : decode cX11_selectSet 24 = .ok (.ireturn, 1) := by decide +kernel
set_option maxHeartbeats 4000000 in
set_option maxRecDepth 100000 in
theorem kX11_selectSet (l : Launch) (D : va_G) (tc : jTC) (h_ h_rules h_table h_table_select : Nat) (g_history g_sets g_setsBefore g_failure g_input g_parser g_examples g_repairer g_rules_codes g_table_sets g_table_possible g_table_lowest g_table_conflicts : Value) (c_rules_count : Int32) (c_table_select : (Nat → Int32)) (p1 : Int32) : ctI0 l D tc yX11_selectSet (Cond.code yX11_selectSet cX11_selectSet 2 (some .int) :: jtb) ({ frames := 1, cells := 0, slots := 0, locals := 21 } : Room) [.ref h_, .int p1] [(h_, .inr (11, [.ref h_rules, g_history, g_sets, g_setsBefore, .ref h_table, g_failure, g_input, g_parser, g_examples, g_repairer])), (h_rules, .inr (6, [g_rules_codes, .int c_rules_count])), (h_table, .inr (8, [.ref h_rules, g_table_sets, .ref h_table_select, g_table_possible, g_table_lowest, g_table_conflicts])), (h_table_select, .inl (tc.1, 24, .inl c_table_select))] (fX11_selectSet c_rules_count c_table_select p1) := by
  refine ctI0_of (lv0 := [(0, .ref h_), (1, .int p1)]) (by decide +kernel) (Nat.le_of_ble_eq_true rfl) rfl (fun X C => ?_)
  unfold fX11_selectSet
  refine j_aload C d11_selectSet_0 0 rfl ?_
  refine j_get C d11_selectSet_1 fl11_12 0 rfl rfl ?_
  refine j_iload C d11_selectSet_4 1 rfl ?_
  refine j_callVI0 (As := [.int p1]) C d11_selectSet_5 mv11_127 (kX6_has _ _ tc h_rules g_rules_codes c_rules_count p1) ⟨rfl, rfl, Nat.le_of_ble_eq_true rfl, Nat.le_of_ble_eq_true rfl⟩ rfl 1 rfl [1] rfl rfl rfl (Nat.le_of_ble_eq_true rfl) (fun x1 => ?_)
  refine j_join 24 (fun v2 => [(h_, .inr (11, [.ref h_rules, g_history, g_sets, g_setsBefore, .ref h_table, g_failure, g_input, g_parser, g_examples, g_repairer])), (h_rules, .inr (6, [g_rules_codes, .int c_rules_count])), (h_table, .inr (8, [.ref h_rules, g_table_sets, .ref h_table_select, g_table_possible, g_table_lowest, g_table_conflicts])), (h_table_select, .inl (tc.1, 24, .inl c_table_select))]) (fun v2 => []) (fun v2 => [.int v2]) (fun v2 => ?_) (fun k3 hk3 => ?_)
  · exact j_iret0 C d11_selectSet_24
  · refine j_if_eq C d11_selectSet_8 ?_ ?_
    · refine j_const C d11_selectSet_23 ?_
      exact j_sub [] rfl (hk3 _)
    · refine j_aload C d11_selectSet_11 0 rfl ?_
      refine j_get C d11_selectSet_12 fl11_38 0 rfl rfl ?_
      refine j_get C d11_selectSet_15 fl11_162 2 rfl rfl ?_
      refine j_iload C d11_selectSet_18 1 rfl ?_
      refine j_iald C d11_selectSet_19 3 rfl (fun x4 => ?_)
      refine j_goto C d11_selectSet_20 ?_
      exact j_sub [] rfl (hk3 _)

theorem d11_changedNonterminals_0 : jda cX11_changedNonterminals 0 0 1 := Or.inl ⟨0, by decide +kernel⟩
theorem d11_changedNonterminals_1 : jd cX11_changedNonterminals 1 (.getfield 26) 3 4 := by decide +kernel
theorem d11_changedNonterminals_4 : jda cX11_changedNonterminals 4 0 5 := Or.inl ⟨0, by decide +kernel⟩
theorem d11_changedNonterminals_5 : jd cX11_changedNonterminals 5 (.getfield 30) 3 8 := by decide +kernel
theorem d11_changedNonterminals_8 : jd cX11_changedNonterminals 8 (.invokevirtual 165) 3 11 := by decide +kernel
theorem d11_changedNonterminals_11 : decode cX11_changedNonterminals 11 = .ok (.ireturn, 1) := by decide +kernel
set_option maxHeartbeats 4000000 in
set_option maxRecDepth 100000 in
theorem kX11_changedNonterminals (l : Launch) (D : va_G) (tc : jTC) (N : Nat) (h_ h_sets h_sets_first h_sets_follow h_setsBefore h_setsBefore_first h_setsBefore_follow : Nat) (g_rules g_history g_table g_failure g_input g_parser g_examples g_repairer g_sets_begins g_setsBefore_begins : Value) (c_sets_nullable : Int32) (c_sets_first : (Nat → Int32)) (c_sets_follow : (Nat → Int32)) (c_setsBefore_nullable : Int32) (c_setsBefore_first : (Nat → Int32)) (c_setsBefore_follow : (Nat → Int32)) : ctI0 l D tc yX11_changedNonterminals (Cond.code yX11_changedNonterminals cX11_changedNonterminals 1 (some .int) :: jtb) ({ frames := 2, cells := 0, slots := 0, locals := 45 } : Room) [.ref h_] [(h_, .inr (11, [g_rules, g_history, .ref h_sets, .ref h_setsBefore, g_table, g_failure, g_input, g_parser, g_examples, g_repairer])), (h_sets, .inr (7, [.int c_sets_nullable, .ref h_sets_first, .ref h_sets_follow, g_sets_begins])), (h_sets_first, .inl (tc.1, 8, .inl c_sets_first)), (h_sets_follow, .inl (tc.1, 8, .inl c_sets_follow)), (h_setsBefore, .inr (7, [.int c_setsBefore_nullable, .ref h_setsBefore_first, .ref h_setsBefore_follow, g_setsBefore_begins])), (h_setsBefore_first, .inl (tc.1, 8, .inl c_setsBefore_first)), (h_setsBefore_follow, .inl (tc.1, 8, .inl c_setsBefore_follow))] (fX11_changedNonterminals N c_sets_nullable c_sets_first c_sets_follow c_setsBefore_nullable c_setsBefore_first c_setsBefore_follow) := by
  refine ctI0_of (lv0 := [(0, .ref h_)]) (by decide +kernel) (Nat.le_of_ble_eq_true rfl) rfl (fun X C => ?_)
  unfold fX11_changedNonterminals
  refine j_aload C d11_changedNonterminals_0 0 rfl ?_
  refine j_get C d11_changedNonterminals_1 fl11_26 0 rfl rfl ?_
  refine j_aload C d11_changedNonterminals_4 0 rfl ?_
  refine j_get C d11_changedNonterminals_5 fl11_30 0 rfl rfl ?_
  refine j_callVI0 (As := [.ref h_setsBefore]) C d11_changedNonterminals_8 mv11_165 (kX7_differences _ _ tc N h_sets h_sets_first h_sets_follow h_setsBefore h_setsBefore_first h_setsBefore_follow g_sets_begins g_setsBefore_begins c_sets_nullable c_sets_first c_sets_follow c_setsBefore_nullable c_setsBefore_first c_setsBefore_follow) ⟨rfl, rfl, Nat.le_of_ble_eq_true rfl, Nat.le_of_ble_eq_true rfl⟩ rfl 1 rfl [1, 2, 3, 4, 5, 6] rfl rfl rfl (Nat.le_of_ble_eq_true rfl) (fun x1 => ?_)
  exact j_iret0 C d11_changedNonterminals_11

theorem d11_productive_0 : jdi cX11_productive 0 1 1 := Or.inl ⟨1, by decide +kernel⟩
theorem d11_productive_1 : jd cX11_productive 1 (.invokestatic 90) 3 4 := by decide +kernel
theorem d11_productive_4 : jdb cX11_productive 4 (.ifCond .eq 21) 21 25 7 := by decide +kernel
theorem d11_productive_7 : jda cX11_productive 7 0 8 := Or.inl ⟨0, by decide +kernel⟩
theorem d11_productive_8 : jd cX11_productive 8 (.getfield 26) 3 11 := by decide +kernel
theorem d11_productive_11 : jda cX11_productive 11 0 12 := Or.inl ⟨0, by decide +kernel⟩
theorem d11_productive_12 : jd cX11_productive 12 (.getfield 12) 3 15 := by decide +kernel
theorem d11_productive_15 : jd cX11_productive 15 (.invokevirtual 169) 3 18 := by decide +kernel
theorem d11_productive_18 : jdi cX11_productive 18 1 19 := Or.inl ⟨1, by decide +kernel⟩
theorem d11_productive_19 : jd cX11_productive 19 (.invokestatic 153) 3 22 := by decide +kernel
theorem d11_productive_22 : jdb cX11_productive 22 (.goto 4) 4 26 25 := by decide +kernel
theorem d11_productive_25 : jdk cX11_productive 25 (-1) 26 := Or.inl ⟨(-1), by decide +kernel⟩
theorem d11_productive_26 : decode cX11_productive 26 = .ok (.ireturn, 1) := by decide +kernel
set_option maxHeartbeats 4000000 in
set_option maxRecDepth 100000 in
theorem kX11_productive (l : Launch) (D : va_G) (tc : jTC) (N : Nat) (h_ h_rules h_rules_codes h_sets : Nat) (g_history g_setsBefore g_table g_failure g_input g_parser g_examples g_repairer g_sets_nullable g_sets_first g_sets_follow g_sets_begins : Value) (c_rules_codes : (Nat → Int32)) (c_rules_count : Int32) (p1 : Int32) : ctI0 l D tc yX11_productive (Cond.code yX11_productive cX11_productive 2 (some .int) :: jtb) ({ frames := 3, cells := 0, slots := 0, locals := 71 } : Room) [.ref h_, .int p1] [(h_, .inr (11, [.ref h_rules, g_history, .ref h_sets, g_setsBefore, g_table, g_failure, g_input, g_parser, g_examples, g_repairer])), (h_rules, .inr (6, [.ref h_rules_codes, .int c_rules_count])), (h_rules_codes, .inl (tc.1, 24, .inl c_rules_codes)), (h_sets, .inr (7, [g_sets_nullable, g_sets_first, g_sets_follow, g_sets_begins]))] (fX11_productive N c_rules_codes c_rules_count p1) := by
  refine ctI0_of (lv0 := [(0, .ref h_), (1, .int p1)]) (by decide +kernel) (Nat.le_of_ble_eq_true rfl) rfl (fun X C => ?_)
  unfold fX11_productive
  refine j_iload C d11_productive_0 1 rfl ?_
  refine j_callSI0 (As := [.int p1]) C d11_productive_1 ms11_90 (kX11_isNonterminal _ _ tc p1) ⟨rfl, rfl, Nat.le_of_ble_eq_true rfl, Nat.le_of_ble_eq_true rfl⟩ rfl [] rfl rfl rfl (Nat.le_of_ble_eq_true rfl) (fun x1 => ?_)
  refine j_join 26 (fun v2 => [(h_, .inr (11, [.ref h_rules, g_history, .ref h_sets, g_setsBefore, g_table, g_failure, g_input, g_parser, g_examples, g_repairer])), (h_rules, .inr (6, [.ref h_rules_codes, .int c_rules_count])), (h_rules_codes, .inl (tc.1, 24, .inl c_rules_codes)), (h_sets, .inr (7, [g_sets_nullable, g_sets_first, g_sets_follow, g_sets_begins]))]) (fun v2 => []) (fun v2 => [.int v2]) (fun v2 => ?_) (fun k3 hk3 => ?_)
  · exact j_iret0 C d11_productive_26
  · refine j_if_eq C d11_productive_4 ?_ ?_
    · refine j_const C d11_productive_25 ?_
      exact j_sub [] rfl (hk3 _)
    · refine j_aload C d11_productive_7 0 rfl ?_
      refine j_get C d11_productive_8 fl11_26 0 rfl rfl ?_
      refine j_aload C d11_productive_11 0 rfl ?_
      refine j_get C d11_productive_12 fl11_12 0 rfl rfl ?_
      refine j_callVI0 (As := [.ref h_rules]) C d11_productive_15 mv11_169 (kX7_productiveOnes _ _ tc N h_sets h_rules h_rules_codes g_sets_nullable g_sets_first g_sets_follow g_sets_begins c_rules_codes c_rules_count) ⟨rfl, rfl, Nat.le_of_ble_eq_true rfl, Nat.le_of_ble_eq_true rfl⟩ rfl 3 rfl [3, 1, 2] rfl rfl rfl (Nat.le_of_ble_eq_true rfl) (fun x4 => ?_)
      refine j_iload C d11_productive_18 1 rfl ?_
      refine j_callSI0 (As := [.int x4, .int p1]) C d11_productive_19 ms11_153 (kX11_bit _ _ tc x4 p1) ⟨rfl, rfl, Nat.le_of_ble_eq_true rfl, Nat.le_of_ble_eq_true rfl⟩ rfl [] rfl rfl rfl (Nat.le_of_ble_eq_true rfl) (fun x5 => ?_)
      refine j_goto C d11_productive_22 ?_
      exact j_sub [] rfl (hk3 _)

theorem d11_reachable_0 : jdi cX11_reachable 0 1 1 := Or.inl ⟨1, by decide +kernel⟩
theorem d11_reachable_1 : jd cX11_reachable 1 (.invokestatic 90) 3 4 := by decide +kernel
theorem d11_reachable_4 : jdb cX11_reachable 4 (.ifCond .eq 21) 21 25 7 := by decide +kernel
theorem d11_reachable_7 : jda cX11_reachable 7 0 8 := Or.inl ⟨0, by decide +kernel⟩
theorem d11_reachable_8 : jd cX11_reachable 8 (.getfield 26) 3 11 := by decide +kernel
theorem d11_reachable_11 : jda cX11_reachable 11 0 12 := Or.inl ⟨0, by decide +kernel⟩
theorem d11_reachable_12 : jd cX11_reachable 12 (.getfield 12) 3 15 := by decide +kernel
theorem d11_reachable_15 : jd cX11_reachable 15 (.invokevirtual 173) 3 18 := by decide +kernel
theorem d11_reachable_18 : jdi cX11_reachable 18 1 19 := Or.inl ⟨1, by decide +kernel⟩
theorem d11_reachable_19 : jd cX11_reachable 19 (.invokestatic 153) 3 22 := by decide +kernel
theorem d11_reachable_22 : jdb cX11_reachable 22 (.goto 4) 4 26 25 := by decide +kernel
theorem d11_reachable_25 : jdk cX11_reachable 25 (-1) 26 := Or.inl ⟨(-1), by decide +kernel⟩
theorem d11_reachable_26 : decode cX11_reachable 26 = .ok (.ireturn, 1) := by decide +kernel
set_option maxHeartbeats 4000000 in
set_option maxRecDepth 100000 in
theorem kX11_reachable (l : Launch) (D : va_G) (tc : jTC) (N : Nat) (h_ h_rules h_rules_codes h_sets : Nat) (g_history g_setsBefore g_table g_failure g_input g_parser g_examples g_repairer g_sets_nullable g_sets_first g_sets_follow g_sets_begins : Value) (c_rules_codes : (Nat → Int32)) (c_rules_count : Int32) (p1 : Int32) : ctI0 l D tc yX11_reachable (Cond.code yX11_reachable cX11_reachable 2 (some .int) :: jtb) ({ frames := 3, cells := 0, slots := 0, locals := 71 } : Room) [.ref h_, .int p1] [(h_, .inr (11, [.ref h_rules, g_history, .ref h_sets, g_setsBefore, g_table, g_failure, g_input, g_parser, g_examples, g_repairer])), (h_rules, .inr (6, [.ref h_rules_codes, .int c_rules_count])), (h_rules_codes, .inl (tc.1, 24, .inl c_rules_codes)), (h_sets, .inr (7, [g_sets_nullable, g_sets_first, g_sets_follow, g_sets_begins]))] (fX11_reachable N c_rules_codes c_rules_count p1) := by
  refine ctI0_of (lv0 := [(0, .ref h_), (1, .int p1)]) (by decide +kernel) (Nat.le_of_ble_eq_true rfl) rfl (fun X C => ?_)
  unfold fX11_reachable
  refine j_iload C d11_reachable_0 1 rfl ?_
  refine j_callSI0 (As := [.int p1]) C d11_reachable_1 ms11_90 (kX11_isNonterminal _ _ tc p1) ⟨rfl, rfl, Nat.le_of_ble_eq_true rfl, Nat.le_of_ble_eq_true rfl⟩ rfl [] rfl rfl rfl (Nat.le_of_ble_eq_true rfl) (fun x1 => ?_)
  refine j_join 26 (fun v2 => [(h_, .inr (11, [.ref h_rules, g_history, .ref h_sets, g_setsBefore, g_table, g_failure, g_input, g_parser, g_examples, g_repairer])), (h_rules, .inr (6, [.ref h_rules_codes, .int c_rules_count])), (h_rules_codes, .inl (tc.1, 24, .inl c_rules_codes)), (h_sets, .inr (7, [g_sets_nullable, g_sets_first, g_sets_follow, g_sets_begins]))]) (fun v2 => []) (fun v2 => [.int v2]) (fun v2 => ?_) (fun k3 hk3 => ?_)
  · exact j_iret0 C d11_reachable_26
  · refine j_if_eq C d11_reachable_4 ?_ ?_
    · refine j_const C d11_reachable_25 ?_
      exact j_sub [] rfl (hk3 _)
    · refine j_aload C d11_reachable_7 0 rfl ?_
      refine j_get C d11_reachable_8 fl11_26 0 rfl rfl ?_
      refine j_aload C d11_reachable_11 0 rfl ?_
      refine j_get C d11_reachable_12 fl11_12 0 rfl rfl ?_
      refine j_callVI0 (As := [.ref h_rules]) C d11_reachable_15 mv11_173 (kX7_reachableOnes _ _ tc N h_sets h_rules h_rules_codes g_sets_nullable g_sets_first g_sets_follow g_sets_begins c_rules_codes c_rules_count) ⟨rfl, rfl, Nat.le_of_ble_eq_true rfl, Nat.le_of_ble_eq_true rfl⟩ rfl 3 rfl [3, 1, 2] rfl rfl rfl (Nat.le_of_ble_eq_true rfl) (fun x4 => ?_)
      refine j_iload C d11_reachable_18 1 rfl ?_
      refine j_callSI0 (As := [.int x4, .int p1]) C d11_reachable_19 ms11_153 (kX11_bit _ _ tc x4 p1) ⟨rfl, rfl, Nat.le_of_ble_eq_true rfl, Nat.le_of_ble_eq_true rfl⟩ rfl [] rfl rfl rfl (Nat.le_of_ble_eq_true rfl) (fun x5 => ?_)
      refine j_goto C d11_reachable_22 ?_
      exact j_sub [] rfl (hk3 _)

theorem d11_leftRecursive_0 : jdi cX11_leftRecursive 0 1 1 := Or.inl ⟨1, by decide +kernel⟩
theorem d11_leftRecursive_1 : jd cX11_leftRecursive 1 (.invokestatic 90) 3 4 := by decide +kernel
theorem d11_leftRecursive_4 : jdb cX11_leftRecursive 4 (.ifCond .eq 21) 21 25 7 := by decide +kernel
theorem d11_leftRecursive_7 : jda cX11_leftRecursive 7 0 8 := Or.inl ⟨0, by decide +kernel⟩
theorem d11_leftRecursive_8 : jd cX11_leftRecursive 8 (.getfield 26) 3 11 := by decide +kernel
theorem d11_leftRecursive_11 : jda cX11_leftRecursive 11 0 12 := Or.inl ⟨0, by decide +kernel⟩
theorem d11_leftRecursive_12 : jd cX11_leftRecursive 12 (.getfield 12) 3 15 := by decide +kernel
theorem d11_leftRecursive_15 : jd cX11_leftRecursive 15 (.invokevirtual 176) 3 18 := by decide +kernel
theorem d11_leftRecursive_18 : jdi cX11_leftRecursive 18 1 19 := Or.inl ⟨1, by decide +kernel⟩
theorem d11_leftRecursive_19 : jd cX11_leftRecursive 19 (.invokestatic 153) 3 22 := by decide +kernel
theorem d11_leftRecursive_22 : jdb cX11_leftRecursive 22 (.goto 4) 4 26 25 := by decide +kernel
theorem d11_leftRecursive_25 : jdk cX11_leftRecursive 25 (-1) 26 := Or.inl ⟨(-1), by decide +kernel⟩
theorem d11_leftRecursive_26 : decode cX11_leftRecursive 26 = .ok (.ireturn, 1) := by decide +kernel
set_option maxHeartbeats 4000000 in
set_option maxRecDepth 100000 in
theorem kX11_leftRecursive (l : Launch) (D : va_G) (tc : jTC) (N : Nat) (h_ h_rules h_rules_codes h_sets h_sets_begins : Nat) (g_history g_setsBefore g_table g_failure g_input g_parser g_examples g_repairer g_sets_first g_sets_follow : Value) (c_rules_codes : (Nat → Int32)) (c_rules_count : Int32) (c_sets_nullable : Int32) (c_sets_begins : (Nat → Int32)) (p1 : Int32) : ctI l D tc yX11_leftRecursive (Cond.code yX11_leftRecursive cX11_leftRecursive 2 (some .int) :: jtb) ({ frames := 4, cells := 0, slots := 0, locals := 89 } : Room) [.ref h_, .int p1] [(h_, .inr (11, [.ref h_rules, g_history, .ref h_sets, g_setsBefore, g_table, g_failure, g_input, g_parser, g_examples, g_repairer])), (h_rules, .inr (6, [.ref h_rules_codes, .int c_rules_count])), (h_rules_codes, .inl (tc.1, 24, .inl c_rules_codes)), (h_sets, .inr (7, [.int c_sets_nullable, g_sets_first, g_sets_follow, .ref h_sets_begins])), (h_sets_begins, .inl (tc.1, 8, .inl c_sets_begins))] (fX11_leftRecursive N c_rules_codes c_rules_count c_sets_nullable c_sets_begins p1) (fun (u : (Nat → Int32)) => [(h_, .inr (11, [.ref h_rules, g_history, .ref h_sets, g_setsBefore, g_table, g_failure, g_input, g_parser, g_examples, g_repairer])), (h_rules, .inr (6, [.ref h_rules_codes, .int c_rules_count])), (h_rules_codes, .inl (tc.1, 24, .inl c_rules_codes)), (h_sets, .inr (7, [.int c_sets_nullable, g_sets_first, g_sets_follow, .ref h_sets_begins])), (h_sets_begins, .inl (tc.1, 8, .inl u))]) := by
  refine ctI_of (lv0 := [(0, .ref h_), (1, .int p1)]) (by decide +kernel) (Nat.le_of_ble_eq_true rfl) rfl (fun X C => ?_)
  unfold fX11_leftRecursive
  refine j_iload C d11_leftRecursive_0 1 rfl ?_
  refine j_callSI0 (As := [.int p1]) C d11_leftRecursive_1 ms11_90 (kX11_isNonterminal _ _ tc p1) ⟨rfl, rfl, Nat.le_of_ble_eq_true rfl, Nat.le_of_ble_eq_true rfl⟩ rfl [] rfl rfl rfl (Nat.le_of_ble_eq_true rfl) (fun x1 => ?_)
  refine j_join2 26 (fun v2 v3 => [(h_, .inr (11, [.ref h_rules, g_history, .ref h_sets, g_setsBefore, g_table, g_failure, g_input, g_parser, g_examples, g_repairer])), (h_rules, .inr (6, [.ref h_rules_codes, .int c_rules_count])), (h_rules_codes, .inl (tc.1, 24, .inl c_rules_codes)), (h_sets, .inr (7, [.int c_sets_nullable, g_sets_first, g_sets_follow, .ref h_sets_begins])), (h_sets_begins, .inl (tc.1, 8, .inl v3))]) (fun v2 v3 => []) (fun v2 v3 => [.int v2]) (fun v2 v3 => ?_) (fun k4 hk4 => ?_)
  · exact j_iret C d11_leftRecursive_26 rfl
  · refine j_if_eq C d11_leftRecursive_4 ?_ ?_
    · refine j_const C d11_leftRecursive_25 ?_
      exact j_sub [] rfl (hk4 _ _)
    · refine j_aload C d11_leftRecursive_7 0 rfl ?_
      refine j_get C d11_leftRecursive_8 fl11_26 0 rfl rfl ?_
      refine j_aload C d11_leftRecursive_11 0 rfl ?_
      refine j_get C d11_leftRecursive_12 fl11_12 0 rfl rfl ?_
      refine j_callVI2 (As := [.ref h_rules]) C d11_leftRecursive_15 mv11_176 (kX7_leftRecursiveOnes _ _ tc N h_sets h_sets_begins h_rules h_rules_codes g_sets_first g_sets_follow c_sets_nullable c_sets_begins c_rules_codes c_rules_count) ⟨rfl, rfl, Nat.le_of_ble_eq_true rfl, Nat.le_of_ble_eq_true rfl⟩ rfl 3 rfl [3, 4, 1, 2] rfl rfl rfl (Nat.le_of_ble_eq_true rfl) (fun o5 => [(h_, .inr (11, [.ref h_rules, g_history, .ref h_sets, g_setsBefore, g_table, g_failure, g_input, g_parser, g_examples, g_repairer])), (h_rules, .inr (6, [.ref h_rules_codes, .int c_rules_count])), (h_rules_codes, .inl (tc.1, 24, .inl c_rules_codes)), (h_sets, .inr (7, [.int c_sets_nullable, g_sets_first, g_sets_follow, .ref h_sets_begins])), (h_sets_begins, .inl (tc.1, 8, .inl o5))]) (fun _ => rfl) (fun _ => rfl) (fun _ => rfl) (fun o6 o5 => ?_)
      refine j_iload C d11_leftRecursive_18 1 rfl ?_
      refine j_callSI0 (As := [.int o6, .int p1]) C d11_leftRecursive_19 ms11_153 (kX11_bit _ _ tc o6 p1) ⟨rfl, rfl, Nat.le_of_ble_eq_true rfl, Nat.le_of_ble_eq_true rfl⟩ rfl [] rfl rfl rfl (Nat.le_of_ble_eq_true rfl) (fun x7 => ?_)
      refine j_goto C d11_leftRecursive_22 ?_
      exact j_sub [] rfl (hk4 _ _)

theorem d11_shortestLength_0 : jdi cX11_shortestLength 0 1 1 := Or.inl ⟨1, by decide +kernel⟩
theorem d11_shortestLength_1 : jd cX11_shortestLength 1 (.invokestatic 90) 3 4 := by decide +kernel
theorem d11_shortestLength_4 : jdb cX11_shortestLength 4 (.ifCond .eq 24) 24 28 7 := by decide +kernel
theorem d11_shortestLength_7 : jda cX11_shortestLength 7 0 8 := Or.inl ⟨0, by decide +kernel⟩
theorem d11_shortestLength_8 : jd cX11_shortestLength 8 (.getfield 70) 3 11 := by decide +kernel
theorem d11_shortestLength_11 : jd cX11_shortestLength 11 (.getfield 179) 3 14 := by decide +kernel
theorem d11_shortestLength_14 : jda cX11_shortestLength 14 0 15 := Or.inl ⟨0, by decide +kernel⟩
theorem d11_shortestLength_15 : jd cX11_shortestLength 15 (.getfield 70) 3 18 := by decide +kernel
theorem d11_shortestLength_18 : jdi cX11_shortestLength 18 1 19 := Or.inl ⟨1, by decide +kernel⟩
theorem d11_shortestLength_19 : jd cX11_shortestLength 19 (.invokevirtual 183) 3 22 := by decide +kernel
theorem d11_shortestLength_22 : jd cX11_shortestLength 22 (.invokevirtual 186) 3 25 := by decide +kernel
theorem d11_shortestLength_25 : jdb cX11_shortestLength 25 (.goto 4) 4 29 28 := by decide +kernel
theorem d11_shortestLength_28 : jdk cX11_shortestLength 28 (-1) 29 := Or.inl ⟨(-1), by decide +kernel⟩
theorem d11_shortestLength_29 : decode cX11_shortestLength 29 = .ok (.ireturn, 1) := by decide +kernel
set_option maxHeartbeats 4000000 in
set_option maxRecDepth 100000 in
theorem kX11_shortestLength (l : Launch) (D : va_G) (tc : jTC) (N : Nat) (h_ h_rules h_rules_codes h_examples h_examples_words h_examples_words_costs h_examples_words_highs h_examples_words_lows : Nat) (g_history g_sets g_setsBefore g_table g_failure g_input g_parser g_repairer g_examples_exampleKey : Value) (c_rules_codes : (Nat → Int32)) (c_rules_count : Int32) (c_examples_words_costs : (Nat → Int32)) (c_examples_words_highs : (Nat → Int64)) (c_examples_words_lows : (Nat → Int64)) (c_examples_plainKnown : Int32) (p1 : Int32) : ctI l D tc yX11_shortestLength (Cond.code yX11_shortestLength cX11_shortestLength 2 (some .int) :: jtb) ({ frames := 6, cells := 0, slots := 0, locals := 138 } : Room) [.ref h_, .int p1] [(h_, .inr (11, [.ref h_rules, g_history, g_sets, g_setsBefore, g_table, g_failure, g_input, g_parser, .ref h_examples, g_repairer])), (h_rules, .inr (6, [.ref h_rules_codes, .int c_rules_count])), (h_rules_codes, .inl (tc.1, 24, .inl c_rules_codes)), (h_examples, .inr (0, [.ref h_rules, .ref h_examples_words, .int c_examples_plainKnown, g_examples_exampleKey])), (h_examples_words, .inr (10, [.ref h_examples_words_costs, .ref h_examples_words_highs, .ref h_examples_words_lows])), (h_examples_words_costs, .inl (tc.1, 362, .inl c_examples_words_costs)), (h_examples_words_highs, .inl (tc.2.1, 362, .inr (.inl c_examples_words_highs))), (h_examples_words_lows, .inl (tc.2.1, 362, .inr (.inl c_examples_words_lows)))] (fX11_shortestLength N c_rules_codes c_rules_count c_examples_words_costs c_examples_words_highs c_examples_words_lows c_examples_plainKnown p1) (fun (u : (Nat → Int32) × (Nat → Int64) × (Nat → Int64) × Int32) => [(h_, .inr (11, [.ref h_rules, g_history, g_sets, g_setsBefore, g_table, g_failure, g_input, g_parser, .ref h_examples, g_repairer])), (h_rules, .inr (6, [.ref h_rules_codes, .int c_rules_count])), (h_rules_codes, .inl (tc.1, 24, .inl c_rules_codes)), (h_examples, .inr (0, [.ref h_rules, .ref h_examples_words, .int u.2.2.2, g_examples_exampleKey])), (h_examples_words, .inr (10, [.ref h_examples_words_costs, .ref h_examples_words_highs, .ref h_examples_words_lows])), (h_examples_words_costs, .inl (tc.1, 362, .inl u.1)), (h_examples_words_highs, .inl (tc.2.1, 362, .inr (.inl u.2.1))), (h_examples_words_lows, .inl (tc.2.1, 362, .inr (.inl u.2.2.1)))]) := by
  refine ctI_of (lv0 := [(0, .ref h_), (1, .int p1)]) (by decide +kernel) (Nat.le_of_ble_eq_true rfl) rfl (fun X C => ?_)
  unfold fX11_shortestLength
  refine j_iload C d11_shortestLength_0 1 rfl ?_
  refine j_callSI0 (As := [.int p1]) C d11_shortestLength_1 ms11_90 (kX11_isNonterminal _ _ tc p1) ⟨rfl, rfl, Nat.le_of_ble_eq_true rfl, Nat.le_of_ble_eq_true rfl⟩ rfl [] rfl rfl rfl (Nat.le_of_ble_eq_true rfl) (fun x1 => ?_)
  refine j_join5 29 (fun v2 v3 v4 v5 v6 => [(h_, .inr (11, [.ref h_rules, g_history, g_sets, g_setsBefore, g_table, g_failure, g_input, g_parser, .ref h_examples, g_repairer])), (h_rules, .inr (6, [.ref h_rules_codes, .int c_rules_count])), (h_rules_codes, .inl (tc.1, 24, .inl c_rules_codes)), (h_examples, .inr (0, [.ref h_rules, .ref h_examples_words, .int v6, g_examples_exampleKey])), (h_examples_words, .inr (10, [.ref h_examples_words_costs, .ref h_examples_words_highs, .ref h_examples_words_lows])), (h_examples_words_costs, .inl (tc.1, 362, .inl v3)), (h_examples_words_highs, .inl (tc.2.1, 362, .inr (.inl v4))), (h_examples_words_lows, .inl (tc.2.1, 362, .inr (.inl v5)))]) (fun v2 v3 v4 v5 v6 => []) (fun v2 v3 v4 v5 v6 => [.int v2]) (fun v2 v3 v4 v5 v6 => ?_) (fun k7 hk7 => ?_)
  · exact j_iret C d11_shortestLength_29 rfl
  · refine j_if_eq C d11_shortestLength_4 ?_ ?_
    · refine j_const C d11_shortestLength_28 ?_
      exact j_sub [] rfl (hk7 _ _ _ _ _)
    · refine j_aload C d11_shortestLength_7 0 rfl ?_
      refine j_get C d11_shortestLength_8 fl11_70 0 rfl rfl ?_
      refine j_get C d11_shortestLength_11 fl11_179 3 rfl rfl ?_
      refine j_aload C d11_shortestLength_14 0 rfl ?_
      refine j_get C d11_shortestLength_15 fl11_70 0 rfl rfl ?_
      refine j_iload C d11_shortestLength_18 1 rfl ?_
      refine j_callVI5 (As := [.int p1]) C d11_shortestLength_19 mv11_183 (kX0_shortestWord _ _ tc N h_examples h_rules h_rules_codes h_examples_words h_examples_words_costs h_examples_words_highs h_examples_words_lows g_examples_exampleKey c_rules_codes c_rules_count c_examples_words_costs c_examples_words_highs c_examples_words_lows c_examples_plainKnown p1) ⟨rfl, rfl, Nat.le_of_ble_eq_true rfl, Nat.le_of_ble_eq_true rfl⟩ rfl 3 rfl [3, 1, 2, 4, 5, 6, 7] rfl rfl rfl (Nat.le_of_ble_eq_true rfl) (fun o8 o9 o10 o11 => [(h_, .inr (11, [.ref h_rules, g_history, g_sets, g_setsBefore, g_table, g_failure, g_input, g_parser, .ref h_examples, g_repairer])), (h_rules, .inr (6, [.ref h_rules_codes, .int c_rules_count])), (h_rules_codes, .inl (tc.1, 24, .inl c_rules_codes)), (h_examples, .inr (0, [.ref h_rules, .ref h_examples_words, .int o11, g_examples_exampleKey])), (h_examples_words, .inr (10, [.ref h_examples_words_costs, .ref h_examples_words_highs, .ref h_examples_words_lows])), (h_examples_words_costs, .inl (tc.1, 362, .inl o8)), (h_examples_words_highs, .inl (tc.2.1, 362, .inr (.inl o9))), (h_examples_words_lows, .inl (tc.2.1, 362, .inr (.inl o10)))]) (fun _ => rfl) (fun _ => rfl) (fun _ _ _ _ => rfl) (fun o12 o8 o9 o10 o11 => ?_)
      refine j_callVI0 (As := [.int o12]) C d11_shortestLength_22 mv11_186 (kX10_lengthOf _ _ tc 362 h_examples_words h_examples_words_costs (.ref h_examples_words_highs) (.ref h_examples_words_lows) o8 o12) ⟨rfl, rfl, Nat.le_of_ble_eq_true rfl, Nat.le_of_ble_eq_true rfl⟩ rfl 4 rfl [4, 5] rfl rfl rfl (Nat.le_of_ble_eq_true rfl) (fun x13 => ?_)
      refine j_goto C d11_shortestLength_25 ?_
      exact j_sub [] rfl (hk7 _ _ _ _ _)

theorem d11_shortestTerminal_0 : jdi cX11_shortestTerminal 0 1 1 := Or.inl ⟨1, by decide +kernel⟩
theorem d11_shortestTerminal_1 : jd cX11_shortestTerminal 1 (.invokestatic 90) 3 4 := by decide +kernel
theorem d11_shortestTerminal_4 : jdb cX11_shortestTerminal 4 (.ifCond .eq 25) 25 29 7 := by decide +kernel
theorem d11_shortestTerminal_7 : jda cX11_shortestTerminal 7 0 8 := Or.inl ⟨0, by decide +kernel⟩
theorem d11_shortestTerminal_8 : jd cX11_shortestTerminal 8 (.getfield 70) 3 11 := by decide +kernel
theorem d11_shortestTerminal_11 : jd cX11_shortestTerminal 11 (.getfield 179) 3 14 := by decide +kernel
theorem d11_shortestTerminal_14 : jda cX11_shortestTerminal 14 0 15 := Or.inl ⟨0, by decide +kernel⟩
theorem d11_shortestTerminal_15 : jd cX11_shortestTerminal 15 (.getfield 70) 3 18 := by decide +kernel
theorem d11_shortestTerminal_18 : jdi cX11_shortestTerminal 18 1 19 := Or.inl ⟨1, by decide +kernel⟩
theorem d11_shortestTerminal_19 : jd cX11_shortestTerminal 19 (.invokevirtual 183) 3 22 := by decide +kernel
theorem d11_shortestTerminal_22 : jdi cX11_shortestTerminal 22 2 23 := Or.inl ⟨2, by decide +kernel⟩
theorem d11_shortestTerminal_23 : jd cX11_shortestTerminal 23 (.invokevirtual 189) 3 26 := by decide +kernel
theorem d11_shortestTerminal_26 : jdb cX11_shortestTerminal 26 (.goto 4) 4 30 29 := by decide +kernel
theorem d11_shortestTerminal_29 : jdk cX11_shortestTerminal 29 (-1) 30 := Or.inl ⟨(-1), by decide +kernel⟩
theorem d11_shortestTerminal_30 : decode cX11_shortestTerminal 30 = .ok (.ireturn, 1) := by decide +kernel
set_option maxHeartbeats 4000000 in
set_option maxRecDepth 100000 in
theorem kX11_shortestTerminal (l : Launch) (D : va_G) (tc : jTC) (N : Nat) (h_ h_rules h_rules_codes h_examples h_examples_words h_examples_words_costs h_examples_words_highs h_examples_words_lows : Nat) (g_history g_sets g_setsBefore g_table g_failure g_input g_parser g_repairer g_examples_exampleKey : Value) (c_rules_codes : (Nat → Int32)) (c_rules_count : Int32) (c_examples_words_costs : (Nat → Int32)) (c_examples_words_highs : (Nat → Int64)) (c_examples_words_lows : (Nat → Int64)) (c_examples_plainKnown : Int32) (p1 : Int32) (p2 : Int32) : ctI l D tc yX11_shortestTerminal (Cond.code yX11_shortestTerminal cX11_shortestTerminal 3 (some .int) :: jtb) ({ frames := 6, cells := 0, slots := 0, locals := 138 } : Room) [.ref h_, .int p1, .int p2] [(h_, .inr (11, [.ref h_rules, g_history, g_sets, g_setsBefore, g_table, g_failure, g_input, g_parser, .ref h_examples, g_repairer])), (h_rules, .inr (6, [.ref h_rules_codes, .int c_rules_count])), (h_rules_codes, .inl (tc.1, 24, .inl c_rules_codes)), (h_examples, .inr (0, [.ref h_rules, .ref h_examples_words, .int c_examples_plainKnown, g_examples_exampleKey])), (h_examples_words, .inr (10, [.ref h_examples_words_costs, .ref h_examples_words_highs, .ref h_examples_words_lows])), (h_examples_words_costs, .inl (tc.1, 362, .inl c_examples_words_costs)), (h_examples_words_highs, .inl (tc.2.1, 362, .inr (.inl c_examples_words_highs))), (h_examples_words_lows, .inl (tc.2.1, 362, .inr (.inl c_examples_words_lows)))] (fX11_shortestTerminal N c_rules_codes c_rules_count c_examples_words_costs c_examples_words_highs c_examples_words_lows c_examples_plainKnown p1 p2) (fun (u : (Nat → Int32) × (Nat → Int64) × (Nat → Int64) × Int32) => [(h_, .inr (11, [.ref h_rules, g_history, g_sets, g_setsBefore, g_table, g_failure, g_input, g_parser, .ref h_examples, g_repairer])), (h_rules, .inr (6, [.ref h_rules_codes, .int c_rules_count])), (h_rules_codes, .inl (tc.1, 24, .inl c_rules_codes)), (h_examples, .inr (0, [.ref h_rules, .ref h_examples_words, .int u.2.2.2, g_examples_exampleKey])), (h_examples_words, .inr (10, [.ref h_examples_words_costs, .ref h_examples_words_highs, .ref h_examples_words_lows])), (h_examples_words_costs, .inl (tc.1, 362, .inl u.1)), (h_examples_words_highs, .inl (tc.2.1, 362, .inr (.inl u.2.1))), (h_examples_words_lows, .inl (tc.2.1, 362, .inr (.inl u.2.2.1)))]) := by
  refine ctI_of (lv0 := [(0, .ref h_), (1, .int p1), (2, .int p2)]) (by decide +kernel) (Nat.le_of_ble_eq_true rfl) rfl (fun X C => ?_)
  unfold fX11_shortestTerminal
  refine j_iload C d11_shortestTerminal_0 1 rfl ?_
  refine j_callSI0 (As := [.int p1]) C d11_shortestTerminal_1 ms11_90 (kX11_isNonterminal _ _ tc p1) ⟨rfl, rfl, Nat.le_of_ble_eq_true rfl, Nat.le_of_ble_eq_true rfl⟩ rfl [] rfl rfl rfl (Nat.le_of_ble_eq_true rfl) (fun x1 => ?_)
  refine j_join5 30 (fun v2 v3 v4 v5 v6 => [(h_, .inr (11, [.ref h_rules, g_history, g_sets, g_setsBefore, g_table, g_failure, g_input, g_parser, .ref h_examples, g_repairer])), (h_rules, .inr (6, [.ref h_rules_codes, .int c_rules_count])), (h_rules_codes, .inl (tc.1, 24, .inl c_rules_codes)), (h_examples, .inr (0, [.ref h_rules, .ref h_examples_words, .int v6, g_examples_exampleKey])), (h_examples_words, .inr (10, [.ref h_examples_words_costs, .ref h_examples_words_highs, .ref h_examples_words_lows])), (h_examples_words_costs, .inl (tc.1, 362, .inl v3)), (h_examples_words_highs, .inl (tc.2.1, 362, .inr (.inl v4))), (h_examples_words_lows, .inl (tc.2.1, 362, .inr (.inl v5)))]) (fun v2 v3 v4 v5 v6 => []) (fun v2 v3 v4 v5 v6 => [.int v2]) (fun v2 v3 v4 v5 v6 => ?_) (fun k7 hk7 => ?_)
  · exact j_iret C d11_shortestTerminal_30 rfl
  · refine j_if_eq C d11_shortestTerminal_4 ?_ ?_
    · refine j_const C d11_shortestTerminal_29 ?_
      exact j_sub [] rfl (hk7 _ _ _ _ _)
    · refine j_aload C d11_shortestTerminal_7 0 rfl ?_
      refine j_get C d11_shortestTerminal_8 fl11_70 0 rfl rfl ?_
      refine j_get C d11_shortestTerminal_11 fl11_179 3 rfl rfl ?_
      refine j_aload C d11_shortestTerminal_14 0 rfl ?_
      refine j_get C d11_shortestTerminal_15 fl11_70 0 rfl rfl ?_
      refine j_iload C d11_shortestTerminal_18 1 rfl ?_
      refine j_callVI5 (As := [.int p1]) C d11_shortestTerminal_19 mv11_183 (kX0_shortestWord _ _ tc N h_examples h_rules h_rules_codes h_examples_words h_examples_words_costs h_examples_words_highs h_examples_words_lows g_examples_exampleKey c_rules_codes c_rules_count c_examples_words_costs c_examples_words_highs c_examples_words_lows c_examples_plainKnown p1) ⟨rfl, rfl, Nat.le_of_ble_eq_true rfl, Nat.le_of_ble_eq_true rfl⟩ rfl 3 rfl [3, 1, 2, 4, 5, 6, 7] rfl rfl rfl (Nat.le_of_ble_eq_true rfl) (fun o8 o9 o10 o11 => [(h_, .inr (11, [.ref h_rules, g_history, g_sets, g_setsBefore, g_table, g_failure, g_input, g_parser, .ref h_examples, g_repairer])), (h_rules, .inr (6, [.ref h_rules_codes, .int c_rules_count])), (h_rules_codes, .inl (tc.1, 24, .inl c_rules_codes)), (h_examples, .inr (0, [.ref h_rules, .ref h_examples_words, .int o11, g_examples_exampleKey])), (h_examples_words, .inr (10, [.ref h_examples_words_costs, .ref h_examples_words_highs, .ref h_examples_words_lows])), (h_examples_words_costs, .inl (tc.1, 362, .inl o8)), (h_examples_words_highs, .inl (tc.2.1, 362, .inr (.inl o9))), (h_examples_words_lows, .inl (tc.2.1, 362, .inr (.inl o10)))]) (fun _ => rfl) (fun _ => rfl) (fun _ _ _ _ => rfl) (fun o12 o8 o9 o10 o11 => ?_)
      refine j_iload C d11_shortestTerminal_22 2 rfl ?_
      refine j_callVI0 (As := [.int o12, .int p2]) C d11_shortestTerminal_23 mv11_189 (kX10_terminalOf _ _ tc 362 h_examples_words h_examples_words_costs h_examples_words_highs h_examples_words_lows o8 o9 o10 o12 p2) ⟨rfl, rfl, Nat.le_of_ble_eq_true rfl, Nat.le_of_ble_eq_true rfl⟩ rfl 4 rfl [4, 5, 6, 7] rfl rfl rfl (Nat.le_of_ble_eq_true rfl) (fun x13 => ?_)
      refine j_goto C d11_shortestTerminal_26 ?_
      exact j_sub [] rfl (hk7 _ _ _ _ _)

theorem d11_tableEntry_0 : jdi cX11_tableEntry 0 1 1 := Or.inl ⟨1, by decide +kernel⟩
theorem d11_tableEntry_1 : jd cX11_tableEntry 1 (.invokestatic 90) 3 4 := by decide +kernel
theorem d11_tableEntry_4 : jdb cX11_tableEntry 4 (.ifCond .eq 13) 13 17 7 := by decide +kernel
theorem d11_tableEntry_7 : jdi cX11_tableEntry 7 2 8 := Or.inl ⟨2, by decide +kernel⟩
theorem d11_tableEntry_8 : jdb cX11_tableEntry 8 (.ifCond .lt 9) 9 17 11 := by decide +kernel
theorem d11_tableEntry_11 : jdi cX11_tableEntry 11 2 12 := Or.inl ⟨2, by decide +kernel⟩
theorem d11_tableEntry_12 : jdk cX11_tableEntry 12 8 14 := Or.inr (Or.inl ⟨8, by decide +kernel⟩)
theorem d11_tableEntry_14 : jdb cX11_tableEntry 14 (.if_icmp .le 5) 5 19 17 := by decide +kernel
theorem d11_tableEntry_17 : jdk cX11_tableEntry 17 (-1) 18 := Or.inl ⟨(-1), by decide +kernel⟩
theorem d11_tableEntry_18 : decode cX11_tableEntry 18 = .ok (.ireturn, 1) := by decide +kernel
theorem d11_tableEntry_19 : jda cX11_tableEntry 19 0 20 := Or.inl ⟨0, by decide +kernel⟩
theorem d11_tableEntry_20 : jd cX11_tableEntry 20 (.getfield 38) 3 23 := by decide +kernel
theorem d11_tableEntry_23 : jdi cX11_tableEntry 23 1 24 := Or.inl ⟨1, by decide +kernel⟩
theorem d11_tableEntry_24 : jdi cX11_tableEntry 24 2 25 := Or.inl ⟨2, by decide +kernel⟩
theorem d11_tableEntry_25 : jd cX11_tableEntry 25 (.invokevirtual 192) 3 28 := by decide +kernel
theorem d11_tableEntry_28 : decode cX11_tableEntry 28 = .ok (.ireturn, 1) := by decide +kernel
set_option maxHeartbeats 4000000 in
set_option maxRecDepth 100000 in
theorem kX11_tableEntry (l : Launch) (D : va_G) (tc : jTC) (h_ h_table h_table_possible h_table_lowest : Nat) (g_rules g_history g_sets g_setsBefore g_failure g_input g_parser g_examples g_repairer g_table_rules g_table_sets g_table_select g_table_conflicts : Value) (c_table_possible : (Nat → Int32)) (c_table_lowest : (Nat → Int32)) (p1 : Int32) (p2 : Int32) : ctI0 l D tc yX11_tableEntry (Cond.code yX11_tableEntry cX11_tableEntry 3 (some .int) :: jtb) ({ frames := 1, cells := 0, slots := 0, locals := 23 } : Room) [.ref h_, .int p1, .int p2] [(h_, .inr (11, [g_rules, g_history, g_sets, g_setsBefore, .ref h_table, g_failure, g_input, g_parser, g_examples, g_repairer])), (h_table, .inr (8, [g_table_rules, g_table_sets, g_table_select, .ref h_table_possible, .ref h_table_lowest, g_table_conflicts])), (h_table_possible, .inl (tc.1, 72, .inl c_table_possible)), (h_table_lowest, .inl (tc.1, 72, .inl c_table_lowest))] (fX11_tableEntry c_table_possible c_table_lowest p1 p2) := by
  refine ctI0_of (lv0 := [(0, .ref h_), (1, .int p1), (2, .int p2)]) (by decide +kernel) (Nat.le_of_ble_eq_true rfl) rfl (fun X C => ?_)
  unfold fX11_tableEntry
  refine j_iload C d11_tableEntry_0 1 rfl ?_
  refine j_callSI0 (As := [.int p1]) C d11_tableEntry_1 ms11_90 (kX11_isNonterminal _ _ tc p1) ⟨rfl, rfl, Nat.le_of_ble_eq_true rfl, Nat.le_of_ble_eq_true rfl⟩ rfl [] rfl rfl rfl (Nat.le_of_ble_eq_true rfl) (fun x1 => ?_)
  refine j_join 17 (fun v2 => [(h_, .inr (11, [g_rules, g_history, g_sets, g_setsBefore, .ref h_table, g_failure, g_input, g_parser, g_examples, g_repairer])), (h_table, .inr (8, [g_table_rules, g_table_sets, g_table_select, .ref h_table_possible, .ref h_table_lowest, g_table_conflicts])), (h_table_possible, .inl (tc.1, 72, .inl c_table_possible)), (h_table_lowest, .inl (tc.1, 72, .inl c_table_lowest))]) (fun v2 => []) (fun v2 => []) (fun v2 => ?_) (fun k3 hk3 => ?_)
  · refine j_const C d11_tableEntry_17 ?_
    exact j_iret0 C d11_tableEntry_18
  · refine j_if_eq C d11_tableEntry_4 ?_ ?_
    · exact j_sub [] rfl (hk3 _)
    · refine j_iload C d11_tableEntry_7 2 rfl ?_
      refine j_if_lt C d11_tableEntry_8 ?_ ?_
      · exact j_sub [] rfl (hk3 _)
      · refine j_iload C d11_tableEntry_11 2 rfl ?_
        refine j_const C d11_tableEntry_12 ?_
        refine j_icmp_le C d11_tableEntry_14 ?_ ?_
        · refine j_aload C d11_tableEntry_19 0 rfl ?_
          refine j_get C d11_tableEntry_20 fl11_38 0 rfl rfl ?_
          refine j_iload C d11_tableEntry_23 1 rfl ?_
          refine j_iload C d11_tableEntry_24 2 rfl ?_
          refine j_callVI0 (As := [.int p1, .int p2]) C d11_tableEntry_25 mv11_192 (kX8_entry _ _ tc h_table h_table_possible h_table_lowest g_table_rules g_table_sets g_table_select g_table_conflicts c_table_possible c_table_lowest p1 p2) ⟨rfl, rfl, Nat.le_of_ble_eq_true rfl, Nat.le_of_ble_eq_true rfl⟩ rfl 1 rfl [1, 2, 3] rfl rfl rfl (Nat.le_of_ble_eq_true rfl) (fun x4 => ?_)
          exact j_iret0 C d11_tableEntry_28
        · exact j_sub [] rfl (hk3 _)

theorem d11_conflictCount_0 : jda cX11_conflictCount 0 0 1 := Or.inl ⟨0, by decide +kernel⟩
theorem d11_conflictCount_1 : jd cX11_conflictCount 1 (.getfield 38) 3 4 := by decide +kernel
theorem d11_conflictCount_4 : jd cX11_conflictCount 4 (.getfield 195) 3 7 := by decide +kernel
theorem d11_conflictCount_7 : decode cX11_conflictCount 7 = .ok (.ireturn, 1) := by decide +kernel
set_option maxHeartbeats 4000000 in
set_option maxRecDepth 100000 in
theorem kX11_conflictCount (l : Launch) (D : va_G) (tc : jTC) (h_ h_table : Nat) (g_rules g_history g_sets g_setsBefore g_failure g_input g_parser g_examples g_repairer g_table_rules g_table_sets g_table_select g_table_possible g_table_lowest : Value) (c_table_conflicts : Int32) : ctI0 l D tc yX11_conflictCount (Cond.code yX11_conflictCount cX11_conflictCount 1 (some .int) :: jtb) ({ frames := 0, cells := 0, slots := 0, locals := 0 } : Room) [.ref h_] [(h_, .inr (11, [g_rules, g_history, g_sets, g_setsBefore, .ref h_table, g_failure, g_input, g_parser, g_examples, g_repairer])), (h_table, .inr (8, [g_table_rules, g_table_sets, g_table_select, g_table_possible, g_table_lowest, .int c_table_conflicts]))] (fX11_conflictCount c_table_conflicts) := by
  refine ctI0_of (lv0 := [(0, .ref h_)]) (by decide +kernel) (Nat.le_of_ble_eq_true rfl) rfl (fun X C => ?_)
  unfold fX11_conflictCount
  refine j_aload C d11_conflictCount_0 0 rfl ?_
  refine j_get C d11_conflictCount_1 fl11_38 0 rfl rfl ?_
  refine j_get C d11_conflictCount_4 fl11_195 1 rfl rfl ?_
  exact j_iret0 C d11_conflictCount_7

theorem d11_isConflict_0 : jdi cX11_isConflict 0 1 1 := Or.inl ⟨1, by decide +kernel⟩
theorem d11_isConflict_1 : jdb cX11_isConflict 1 (.ifCond .lt 18) 18 19 4 := by decide +kernel
theorem d11_isConflict_4 : jdi cX11_isConflict 4 1 5 := Or.inl ⟨1, by decide +kernel⟩
theorem d11_isConflict_5 : jda cX11_isConflict 5 0 6 := Or.inl ⟨0, by decide +kernel⟩
theorem d11_isConflict_6 : jd cX11_isConflict 6 (.getfield 38) 3 9 := by decide +kernel
theorem d11_isConflict_9 : jd cX11_isConflict 9 (.getfield 195) 3 12 := by decide +kernel
theorem d11_isConflict_12 : jdb cX11_isConflict 12 (.if_icmp .ge 7) 7 19 15 := by decide +kernel
theorem d11_isConflict_15 : jdk cX11_isConflict 15 1 16 := Or.inl ⟨1, by decide +kernel⟩
theorem d11_isConflict_16 : jdb cX11_isConflict 16 (.goto 4) 4 20 19 := by decide +kernel
theorem d11_isConflict_19 : jdk cX11_isConflict 19 0 20 := Or.inl ⟨0, by decide +kernel⟩
theorem d11_isConflict_20 : decode cX11_isConflict 20 = .ok (.ireturn, 1) := by decide +kernel
set_option maxHeartbeats 4000000 in
set_option maxRecDepth 100000 in
theorem kX11_isConflict (l : Launch) (D : va_G) (tc : jTC) (h_ h_table : Nat) (g_rules g_history g_sets g_setsBefore g_failure g_input g_parser g_examples g_repairer g_table_rules g_table_sets g_table_select g_table_possible g_table_lowest : Value) (c_table_conflicts : Int32) (p1 : Int32) : ctI0 l D tc yX11_isConflict (Cond.code yX11_isConflict cX11_isConflict 2 (some .boolean) :: jtb) ({ frames := 0, cells := 0, slots := 0, locals := 0 } : Room) [.ref h_, .int p1] [(h_, .inr (11, [g_rules, g_history, g_sets, g_setsBefore, .ref h_table, g_failure, g_input, g_parser, g_examples, g_repairer])), (h_table, .inr (8, [g_table_rules, g_table_sets, g_table_select, g_table_possible, g_table_lowest, .int c_table_conflicts]))] (fX11_isConflict c_table_conflicts p1) := by
  refine ctI0_of (lv0 := [(0, .ref h_), (1, .int p1)]) (by decide +kernel) (Nat.le_of_ble_eq_true rfl) rfl (fun X C => ?_)
  unfold fX11_isConflict
  refine j_iload C d11_isConflict_0 1 rfl ?_
  refine j_join 20 (fun v1 => [(h_, .inr (11, [g_rules, g_history, g_sets, g_setsBefore, .ref h_table, g_failure, g_input, g_parser, g_examples, g_repairer])), (h_table, .inr (8, [g_table_rules, g_table_sets, g_table_select, g_table_possible, g_table_lowest, .int c_table_conflicts]))]) (fun v1 => []) (fun v1 => [.int v1]) (fun v1 => ?_) (fun k2 hk2 => ?_)
  · refine j_gz (fun hz => ?_)
    exact j_zret0 C hz d11_isConflict_20
  · refine j_join 19 (fun v3 => [(h_, .inr (11, [g_rules, g_history, g_sets, g_setsBefore, .ref h_table, g_failure, g_input, g_parser, g_examples, g_repairer])), (h_table, .inr (8, [g_table_rules, g_table_sets, g_table_select, g_table_possible, g_table_lowest, .int c_table_conflicts]))]) (fun v3 => []) (fun v3 => []) (fun v3 => ?_) (fun k4 hk4 => ?_)
    · refine j_const C d11_isConflict_19 ?_
      exact hk2 _
    · refine j_if_lt C d11_isConflict_1 ?_ ?_
      · exact j_sub [] rfl (hk4 _)
      · refine j_iload C d11_isConflict_4 1 rfl ?_
        refine j_aload C d11_isConflict_5 0 rfl ?_
        refine j_get C d11_isConflict_6 fl11_38 0 rfl rfl ?_
        refine j_get C d11_isConflict_9 fl11_195 1 rfl rfl ?_
        refine j_icmp_ge C d11_isConflict_12 ?_ ?_
        · exact j_sub [] rfl (hk4 _)
        · refine j_const C d11_isConflict_15 ?_
          refine j_goto C d11_isConflict_16 ?_
          exact j_sub [] rfl (hk2 _)

theorem d11_conflict_0 : jda cX11_conflict 0 0 1 := Or.inl ⟨0, by decide +kernel⟩
theorem d11_conflict_1 : jdi cX11_conflict 1 1 2 := Or.inl ⟨1, by decide +kernel⟩
theorem d11_conflict_2 : jd cX11_conflict 2 (.invokevirtual 198) 3 5 := by decide +kernel
theorem d11_conflict_5 : jdb cX11_conflict 5 (.ifCond .eq 12) 12 17 8 := by decide +kernel
theorem d11_conflict_8 : jdi cX11_conflict 8 2 9 := Or.inl ⟨2, by decide +kernel⟩
theorem d11_conflict_9 : jdb cX11_conflict 9 (.ifCond .lt 8) 8 17 12 := by decide +kernel
theorem d11_conflict_12 : jdi cX11_conflict 12 2 13 := Or.inl ⟨2, by decide +kernel⟩
theorem d11_conflict_13 : jdk cX11_conflict 13 3 14 := Or.inl ⟨3, by decide +kernel⟩
theorem d11_conflict_14 : jdb cX11_conflict 14 (.if_icmp .le 5) 5 19 17 := by decide +kernel
theorem d11_conflict_17 : jdk cX11_conflict 17 (-1) 18 := Or.inl ⟨(-1), by decide +kernel⟩
theorem d11_conflict_18 : decode cX11_conflict 18 = .ok (.ireturn, 1) := by decide +kernel
theorem d11_conflict_19 : jda cX11_conflict 19 0 20 := Or.inl ⟨0, by decide +kernel⟩
theorem d11_conflict_20 : jd cX11_conflict 20 (.getfield 38) 3 23 := by decide +kernel
theorem d11_conflict_23 : jdi cX11_conflict 23 1 24 := Or.inl ⟨1, by decide +kernel⟩
theorem d11_conflict_24 : jd cX11_conflict 24 (.invokevirtual 201) 3 27 := by decide +kernel
theorem d11_conflict_27 : jdi cX11_conflict 27 2 28 := Or.inl ⟨2, by decide +kernel⟩
theorem d11_conflict_28 : jd cX11_conflict 28 (.invokestatic 204) 3 31 := by decide +kernel
theorem d11_conflict_31 : decode cX11_conflict 31 = .ok (.ireturn, 1) := by decide +kernel
set_option maxHeartbeats 4000000 in
set_option maxRecDepth 100000 in
theorem kX11_conflict (l : Launch) (D : va_G) (tc : jTC) (N : Nat) (h_ h_rules h_rules_codes h_table h_table_select h_table_possible : Nat) (g_history g_sets g_setsBefore g_failure g_input g_parser g_examples g_repairer g_table_sets g_table_lowest : Value) (c_rules_codes : (Nat → Int32)) (c_rules_count : Int32) (c_table_select : (Nat → Int32)) (c_table_possible : (Nat → Int32)) (c_table_conflicts : Int32) (p1 : Int32) (p2 : Int32) : ctI0 l D tc yX11_conflict (Cond.code yX11_conflict cX11_conflict 3 (some .int) :: jtb) ({ frames := 5, cells := 0, slots := 0, locals := 112 } : Room) [.ref h_, .int p1, .int p2] [(h_, .inr (11, [.ref h_rules, g_history, g_sets, g_setsBefore, .ref h_table, g_failure, g_input, g_parser, g_examples, g_repairer])), (h_rules, .inr (6, [.ref h_rules_codes, .int c_rules_count])), (h_rules_codes, .inl (tc.1, 24, .inl c_rules_codes)), (h_table, .inr (8, [.ref h_rules, g_table_sets, .ref h_table_select, .ref h_table_possible, g_table_lowest, .int c_table_conflicts])), (h_table_select, .inl (tc.1, 24, .inl c_table_select)), (h_table_possible, .inl (tc.1, 72, .inl c_table_possible))] (fX11_conflict N c_rules_codes c_rules_count c_table_select c_table_possible c_table_conflicts p1 p2) := by
  refine ctI0_of (lv0 := [(0, .ref h_), (1, .int p1), (2, .int p2)]) (by decide +kernel) (Nat.le_of_ble_eq_true rfl) rfl (fun X C => ?_)
  unfold fX11_conflict
  refine j_aload C d11_conflict_0 0 rfl ?_
  refine j_iload C d11_conflict_1 1 rfl ?_
  refine j_callVI0 (As := [.int p1]) C d11_conflict_2 mv11_198 (kX11_isConflict _ _ tc h_ h_table (.ref h_rules) g_history g_sets g_setsBefore g_failure g_input g_parser g_examples g_repairer (.ref h_rules) g_table_sets (.ref h_table_select) (.ref h_table_possible) g_table_lowest c_table_conflicts p1) ⟨rfl, rfl, Nat.le_of_ble_eq_true rfl, Nat.le_of_ble_eq_true rfl⟩ rfl 0 rfl [0, 3] rfl rfl rfl (Nat.le_of_ble_eq_true rfl) (fun x1 => ?_)
  refine j_join 17 (fun v2 => [(h_, .inr (11, [.ref h_rules, g_history, g_sets, g_setsBefore, .ref h_table, g_failure, g_input, g_parser, g_examples, g_repairer])), (h_rules, .inr (6, [.ref h_rules_codes, .int c_rules_count])), (h_rules_codes, .inl (tc.1, 24, .inl c_rules_codes)), (h_table, .inr (8, [.ref h_rules, g_table_sets, .ref h_table_select, .ref h_table_possible, g_table_lowest, .int c_table_conflicts])), (h_table_select, .inl (tc.1, 24, .inl c_table_select)), (h_table_possible, .inl (tc.1, 72, .inl c_table_possible))]) (fun v2 => []) (fun v2 => []) (fun v2 => ?_) (fun k3 hk3 => ?_)
  · refine j_const C d11_conflict_17 ?_
    exact j_iret0 C d11_conflict_18
  · refine j_if_eq C d11_conflict_5 ?_ ?_
    · exact j_sub [] rfl (hk3 _)
    · refine j_iload C d11_conflict_8 2 rfl ?_
      refine j_if_lt C d11_conflict_9 ?_ ?_
      · exact j_sub [] rfl (hk3 _)
      · refine j_iload C d11_conflict_12 2 rfl ?_
        refine j_const C d11_conflict_13 ?_
        refine j_icmp_le C d11_conflict_14 ?_ ?_
        · refine j_aload C d11_conflict_19 0 rfl ?_
          refine j_get C d11_conflict_20 fl11_38 0 rfl rfl ?_
          refine j_iload C d11_conflict_23 1 rfl ?_
          refine j_callVI0 (As := [.int p1]) C d11_conflict_24 mv11_201 (kX8_conflictAt _ _ tc N h_table h_rules h_rules_codes h_table_select h_table_possible g_table_sets g_table_lowest (.int c_table_conflicts) c_rules_codes c_rules_count c_table_select c_table_possible p1) ⟨rfl, rfl, Nat.le_of_ble_eq_true rfl, Nat.le_of_ble_eq_true rfl⟩ rfl 3 rfl [3, 1, 2, 4, 5] rfl rfl rfl (Nat.le_of_ble_eq_true rfl) (fun x4 => ?_)
          refine j_iload C d11_conflict_27 2 rfl ?_
          refine j_callSI0 (As := [.int x4, .int p2]) C d11_conflict_28 ms11_204 (kX8_partOf _ _ tc x4 p2) ⟨rfl, rfl, Nat.le_of_ble_eq_true rfl, Nat.le_of_ble_eq_true rfl⟩ rfl [] rfl rfl rfl (Nat.le_of_ble_eq_true rfl) (fun x5 => ?_)
          exact j_iret0 C d11_conflict_31
        · exact j_sub [] rfl (hk3 _)

theorem d11_conflictKind_0 : jda cX11_conflictKind 0 0 1 := Or.inl ⟨0, by decide +kernel⟩
theorem d11_conflictKind_1 : jdi cX11_conflictKind 1 1 2 := Or.inl ⟨1, by decide +kernel⟩
theorem d11_conflictKind_2 : jd cX11_conflictKind 2 (.invokevirtual 198) 3 5 := by decide +kernel
theorem d11_conflictKind_5 : jdb cX11_conflictKind 5 (.ifCond .eq 21) 21 26 8 := by decide +kernel
theorem d11_conflictKind_8 : jda cX11_conflictKind 8 0 9 := Or.inl ⟨0, by decide +kernel⟩
theorem d11_conflictKind_9 : jd cX11_conflictKind 9 (.getfield 38) 3 12 := by decide +kernel
theorem d11_conflictKind_12 : jda cX11_conflictKind 12 0 13 := Or.inl ⟨0, by decide +kernel⟩
theorem d11_conflictKind_13 : jd cX11_conflictKind 13 (.getfield 38) 3 16 := by decide +kernel
theorem d11_conflictKind_16 : jdi cX11_conflictKind 16 1 17 := Or.inl ⟨1, by decide +kernel⟩
theorem d11_conflictKind_17 : jd cX11_conflictKind 17 (.invokevirtual 201) 3 20 := by decide +kernel
theorem d11_conflictKind_20 : jd cX11_conflictKind 20 (.invokevirtual 207) 3 23 := by decide +kernel
theorem d11_conflictKind_23 : jdb cX11_conflictKind 23 (.goto 4) 4 27 26 := by decide +kernel
theorem d11_conflictKind_26 : jdk cX11_conflictKind 26 (-1) 27 := Or.inl ⟨(-1), by decide +kernel⟩
theorem d11_conflictKind_27 : decode cX11_conflictKind 27 = .ok (.ireturn, 1) := by decide +kernel
set_option maxHeartbeats 4000000 in
set_option maxRecDepth 100000 in
theorem kX11_conflictKind (l : Launch) (D : va_G) (tc : jTC) (N : Nat) (h_ h_rules h_rules_codes h_sets h_sets_first h_table h_table_select h_table_possible : Nat) (g_history g_setsBefore g_failure g_input g_parser g_examples g_repairer g_sets_follow g_sets_begins g_table_lowest : Value) (c_rules_codes : (Nat → Int32)) (c_rules_count : Int32) (c_sets_nullable : Int32) (c_sets_first : (Nat → Int32)) (c_table_select : (Nat → Int32)) (c_table_possible : (Nat → Int32)) (c_table_conflicts : Int32) (p1 : Int32) : ctI0 l D tc yX11_conflictKind (Cond.code yX11_conflictKind cX11_conflictKind 2 (some .int) :: jtb) ({ frames := 5, cells := 0, slots := 0, locals := 112 } : Room) [.ref h_, .int p1] [(h_, .inr (11, [.ref h_rules, g_history, .ref h_sets, g_setsBefore, .ref h_table, g_failure, g_input, g_parser, g_examples, g_repairer])), (h_rules, .inr (6, [.ref h_rules_codes, .int c_rules_count])), (h_rules_codes, .inl (tc.1, 24, .inl c_rules_codes)), (h_sets, .inr (7, [.int c_sets_nullable, .ref h_sets_first, g_sets_follow, g_sets_begins])), (h_sets_first, .inl (tc.1, 8, .inl c_sets_first)), (h_table, .inr (8, [.ref h_rules, .ref h_sets, .ref h_table_select, .ref h_table_possible, g_table_lowest, .int c_table_conflicts])), (h_table_select, .inl (tc.1, 24, .inl c_table_select)), (h_table_possible, .inl (tc.1, 72, .inl c_table_possible))] (fX11_conflictKind N c_rules_codes c_rules_count c_sets_nullable c_sets_first c_table_select c_table_possible c_table_conflicts p1) := by
  refine ctI0_of (lv0 := [(0, .ref h_), (1, .int p1)]) (by decide +kernel) (Nat.le_of_ble_eq_true rfl) rfl (fun X C => ?_)
  unfold fX11_conflictKind
  refine j_aload C d11_conflictKind_0 0 rfl ?_
  refine j_iload C d11_conflictKind_1 1 rfl ?_
  refine j_callVI0 (As := [.int p1]) C d11_conflictKind_2 mv11_198 (kX11_isConflict _ _ tc h_ h_table (.ref h_rules) g_history (.ref h_sets) g_setsBefore g_failure g_input g_parser g_examples g_repairer (.ref h_rules) (.ref h_sets) (.ref h_table_select) (.ref h_table_possible) g_table_lowest c_table_conflicts p1) ⟨rfl, rfl, Nat.le_of_ble_eq_true rfl, Nat.le_of_ble_eq_true rfl⟩ rfl 0 rfl [0, 5] rfl rfl rfl (Nat.le_of_ble_eq_true rfl) (fun x1 => ?_)
  refine j_join 27 (fun v2 => [(h_, .inr (11, [.ref h_rules, g_history, .ref h_sets, g_setsBefore, .ref h_table, g_failure, g_input, g_parser, g_examples, g_repairer])), (h_rules, .inr (6, [.ref h_rules_codes, .int c_rules_count])), (h_rules_codes, .inl (tc.1, 24, .inl c_rules_codes)), (h_sets, .inr (7, [.int c_sets_nullable, .ref h_sets_first, g_sets_follow, g_sets_begins])), (h_sets_first, .inl (tc.1, 8, .inl c_sets_first)), (h_table, .inr (8, [.ref h_rules, .ref h_sets, .ref h_table_select, .ref h_table_possible, g_table_lowest, .int c_table_conflicts])), (h_table_select, .inl (tc.1, 24, .inl c_table_select)), (h_table_possible, .inl (tc.1, 72, .inl c_table_possible))]) (fun v2 => []) (fun v2 => [.int v2]) (fun v2 => ?_) (fun k3 hk3 => ?_)
  · exact j_iret0 C d11_conflictKind_27
  · refine j_if_eq C d11_conflictKind_5 ?_ ?_
    · refine j_const C d11_conflictKind_26 ?_
      exact j_sub [] rfl (hk3 _)
    · refine j_aload C d11_conflictKind_8 0 rfl ?_
      refine j_get C d11_conflictKind_9 fl11_38 0 rfl rfl ?_
      refine j_aload C d11_conflictKind_12 0 rfl ?_
      refine j_get C d11_conflictKind_13 fl11_38 0 rfl rfl ?_
      refine j_iload C d11_conflictKind_16 1 rfl ?_
      refine j_callVI0 (As := [.int p1]) C d11_conflictKind_17 mv11_201 (kX8_conflictAt _ _ tc N h_table h_rules h_rules_codes h_table_select h_table_possible (.ref h_sets) g_table_lowest (.int c_table_conflicts) c_rules_codes c_rules_count c_table_select c_table_possible p1) ⟨rfl, rfl, Nat.le_of_ble_eq_true rfl, Nat.le_of_ble_eq_true rfl⟩ rfl 5 rfl [5, 1, 2, 6, 7] rfl rfl rfl (Nat.le_of_ble_eq_true rfl) (fun x4 => ?_)
      refine j_callVI0 (As := [.int x4]) C d11_conflictKind_20 mv11_207 (kX8_kindOf _ _ tc N h_table h_rules h_rules_codes h_sets h_sets_first (.ref h_table_select) (.ref h_table_possible) g_table_lowest (.int c_table_conflicts) g_sets_follow g_sets_begins c_rules_codes c_rules_count c_sets_nullable c_sets_first x4) ⟨rfl, rfl, Nat.le_of_ble_eq_true rfl, Nat.le_of_ble_eq_true rfl⟩ rfl 5 rfl [5, 1, 2, 3, 4] rfl rfl rfl (Nat.le_of_ble_eq_true rfl) (fun x5 => ?_)
      refine j_goto C d11_conflictKind_23 ?_
      exact j_sub [] rfl (hk3 _)

theorem d11_exampleWord_0 : jda cX11_exampleWord 0 0 1 := Or.inl ⟨0, by decide +kernel⟩
theorem d11_exampleWord_1 : jd cX11_exampleWord 1 (.getfield 38) 3 4 := by decide +kernel
theorem d11_exampleWord_4 : jdi cX11_exampleWord 4 1 5 := Or.inl ⟨1, by decide +kernel⟩
theorem d11_exampleWord_5 : jd cX11_exampleWord 5 (.invokevirtual 201) 3 8 := by decide +kernel
theorem d11_exampleWord_8 : jds cX11_exampleWord 8 3 9 := Or.inl ⟨3, by decide +kernel⟩
theorem d11_exampleWord_9 : jdi cX11_exampleWord 9 3 10 := Or.inl ⟨3, by decide +kernel⟩
theorem d11_exampleWord_10 : jdk cX11_exampleWord 10 2 11 := Or.inl ⟨2, by decide +kernel⟩
theorem d11_exampleWord_11 : jdi cX11_exampleWord 11 2 12 := Or.inl ⟨2, by decide +kernel⟩
theorem d11_exampleWord_12 : jd cX11_exampleWord 12 (.iadd) 1 13 := by decide +kernel
theorem d11_exampleWord_13 : jd cX11_exampleWord 13 (.invokestatic 204) 3 16 := by decide +kernel
theorem d11_exampleWord_16 : jds cX11_exampleWord 16 4 18 := Or.inr (by decide +kernel)
theorem d11_exampleWord_18 : jda cX11_exampleWord 18 0 19 := Or.inl ⟨0, by decide +kernel⟩
theorem d11_exampleWord_19 : jd cX11_exampleWord 19 (.getfield 70) 3 22 := by decide +kernel
theorem d11_exampleWord_22 : jdi cX11_exampleWord 22 4 24 := Or.inr (by decide +kernel)
theorem d11_exampleWord_24 : jdi cX11_exampleWord 24 3 25 := Or.inl ⟨3, by decide +kernel⟩
theorem d11_exampleWord_25 : jdk cX11_exampleWord 25 1 26 := Or.inl ⟨1, by decide +kernel⟩
theorem d11_exampleWord_26 : jd cX11_exampleWord 26 (.invokestatic 204) 3 29 := by decide +kernel
theorem d11_exampleWord_29 : jd cX11_exampleWord 29 (.invokevirtual 310) 3 32 := by decide +kernel
theorem d11_exampleWord_32 : decode cX11_exampleWord 32 = .ok (.ireturn, 1) := by decide +kernel
set_option maxHeartbeats 4000000 in
set_option maxRecDepth 100000 in
theorem kX11_exampleWord (l : Launch) (D : va_G) (tc : jTC) (N : Nat) (h_ h_rules h_rules_codes h_table h_table_select h_table_possible h_examples h_examples_words h_examples_words_costs h_examples_words_highs h_examples_words_lows : Nat) (g_history g_sets g_setsBefore g_failure g_input g_parser g_repairer g_table_sets g_table_lowest g_table_conflicts : Value) (c_rules_codes : (Nat → Int32)) (c_rules_count : Int32) (c_table_select : (Nat → Int32)) (c_table_possible : (Nat → Int32)) (c_examples_words_costs : (Nat → Int32)) (c_examples_words_highs : (Nat → Int64)) (c_examples_words_lows : (Nat → Int64)) (c_examples_plainKnown : Int32) (c_examples_exampleKey : Int32) (p1 : Int32) (p2 : Int32) : ctI l D tc yX11_exampleWord (Cond.code yX11_exampleWord cX11_exampleWord 5 (some .int) :: jtb) ({ frames := 7, cells := 0, slots := 0, locals := 165 } : Room) [.ref h_, .int p1, .int p2] [(h_, .inr (11, [.ref h_rules, g_history, g_sets, g_setsBefore, .ref h_table, g_failure, g_input, g_parser, .ref h_examples, g_repairer])), (h_rules, .inr (6, [.ref h_rules_codes, .int c_rules_count])), (h_rules_codes, .inl (tc.1, 24, .inl c_rules_codes)), (h_table, .inr (8, [.ref h_rules, g_table_sets, .ref h_table_select, .ref h_table_possible, g_table_lowest, g_table_conflicts])), (h_table_select, .inl (tc.1, 24, .inl c_table_select)), (h_table_possible, .inl (tc.1, 72, .inl c_table_possible)), (h_examples, .inr (0, [.ref h_rules, .ref h_examples_words, .int c_examples_plainKnown, .int c_examples_exampleKey])), (h_examples_words, .inr (10, [.ref h_examples_words_costs, .ref h_examples_words_highs, .ref h_examples_words_lows])), (h_examples_words_costs, .inl (tc.1, 362, .inl c_examples_words_costs)), (h_examples_words_highs, .inl (tc.2.1, 362, .inr (.inl c_examples_words_highs))), (h_examples_words_lows, .inl (tc.2.1, 362, .inr (.inl c_examples_words_lows)))] (fX11_exampleWord N c_rules_codes c_rules_count c_table_select c_table_possible c_examples_words_costs c_examples_words_highs c_examples_words_lows c_examples_plainKnown c_examples_exampleKey p1 p2) (fun (u : (Nat → Int32) × (Nat → Int64) × (Nat → Int64) × Int32 × Int32) => [(h_, .inr (11, [.ref h_rules, g_history, g_sets, g_setsBefore, .ref h_table, g_failure, g_input, g_parser, .ref h_examples, g_repairer])), (h_rules, .inr (6, [.ref h_rules_codes, .int c_rules_count])), (h_rules_codes, .inl (tc.1, 24, .inl c_rules_codes)), (h_table, .inr (8, [.ref h_rules, g_table_sets, .ref h_table_select, .ref h_table_possible, g_table_lowest, g_table_conflicts])), (h_table_select, .inl (tc.1, 24, .inl c_table_select)), (h_table_possible, .inl (tc.1, 72, .inl c_table_possible)), (h_examples, .inr (0, [.ref h_rules, .ref h_examples_words, .int u.2.2.2.1, .int u.2.2.2.2])), (h_examples_words, .inr (10, [.ref h_examples_words_costs, .ref h_examples_words_highs, .ref h_examples_words_lows])), (h_examples_words_costs, .inl (tc.1, 362, .inl u.1)), (h_examples_words_highs, .inl (tc.2.1, 362, .inr (.inl u.2.1))), (h_examples_words_lows, .inl (tc.2.1, 362, .inr (.inl u.2.2.1)))]) := by
  refine ctI_of (lv0 := [(0, .ref h_), (1, .int p1), (2, .int p2)]) (by decide +kernel) (Nat.le_of_ble_eq_true rfl) rfl (fun X C => ?_)
  unfold fX11_exampleWord
  refine j_aload C d11_exampleWord_0 0 rfl ?_
  refine j_get C d11_exampleWord_1 fl11_38 0 rfl rfl ?_
  refine j_iload C d11_exampleWord_4 1 rfl ?_
  refine j_callVI0 (As := [.int p1]) C d11_exampleWord_5 mv11_201 (kX8_conflictAt _ _ tc N h_table h_rules h_rules_codes h_table_select h_table_possible g_table_sets g_table_lowest g_table_conflicts c_rules_codes c_rules_count c_table_select c_table_possible p1) ⟨rfl, rfl, Nat.le_of_ble_eq_true rfl, Nat.le_of_ble_eq_true rfl⟩ rfl 3 rfl [3, 1, 2, 4, 5] rfl rfl rfl (Nat.le_of_ble_eq_true rfl) (fun x1 => ?_)
  refine j_istore C d11_exampleWord_8 (by decide) (lv' := [(3, .int x1), (0, .ref h_), (1, .int p1), (2, .int p2)]) rfl ?_
  refine j_iload C d11_exampleWord_9 0 rfl ?_
  refine j_const C d11_exampleWord_10 ?_
  refine j_iload C d11_exampleWord_11 3 rfl ?_
  refine j_iadd C d11_exampleWord_12 ?_
  refine j_callSI0 (As := [.int x1, .int ((2 : Int32) + p2)]) C d11_exampleWord_13 ms11_204 (kX8_partOf _ _ tc x1 ((2 : Int32) + p2)) ⟨rfl, rfl, Nat.le_of_ble_eq_true rfl, Nat.le_of_ble_eq_true rfl⟩ rfl [] rfl rfl rfl (Nat.le_of_ble_eq_true rfl) (fun x2 => ?_)
  refine j_istore C d11_exampleWord_16 (by decide) (lv' := [(4, .int x2), (3, .int x1), (0, .ref h_), (1, .int p1), (2, .int p2)]) rfl ?_
  refine j_aload C d11_exampleWord_18 2 rfl ?_
  refine j_get C d11_exampleWord_19 fl11_70 0 rfl rfl ?_
  refine j_iload C d11_exampleWord_22 0 rfl ?_
  refine j_iload C d11_exampleWord_24 1 rfl ?_
  refine j_const C d11_exampleWord_25 ?_
  refine j_callSI0 (As := [.int x1, .int 1]) C d11_exampleWord_26 ms11_204 (kX8_partOf _ _ tc x1 1) ⟨rfl, rfl, Nat.le_of_ble_eq_true rfl, Nat.le_of_ble_eq_true rfl⟩ rfl [] rfl rfl rfl (Nat.le_of_ble_eq_true rfl) (fun x3 => ?_)
  refine j_callVI6 (As := [.int x2, .int x3]) C d11_exampleWord_29 mv11_310 (kX0_exampleWord _ _ tc N h_examples h_rules h_rules_codes h_examples_words h_examples_words_costs h_examples_words_highs h_examples_words_lows c_rules_codes c_rules_count c_examples_words_costs c_examples_words_highs c_examples_words_lows c_examples_plainKnown c_examples_exampleKey x2 x3) ⟨rfl, rfl, Nat.le_of_ble_eq_true rfl, Nat.le_of_ble_eq_true rfl⟩ rfl 6 rfl [6, 1, 2, 7, 8, 9, 10] rfl rfl rfl (Nat.le_of_ble_eq_true rfl) (fun o4 o5 o6 o7 o8 => [(h_, .inr (11, [.ref h_rules, g_history, g_sets, g_setsBefore, .ref h_table, g_failure, g_input, g_parser, .ref h_examples, g_repairer])), (h_rules, .inr (6, [.ref h_rules_codes, .int c_rules_count])), (h_rules_codes, .inl (tc.1, 24, .inl c_rules_codes)), (h_table, .inr (8, [.ref h_rules, g_table_sets, .ref h_table_select, .ref h_table_possible, g_table_lowest, g_table_conflicts])), (h_table_select, .inl (tc.1, 24, .inl c_table_select)), (h_table_possible, .inl (tc.1, 72, .inl c_table_possible)), (h_examples, .inr (0, [.ref h_rules, .ref h_examples_words, .int o7, .int o8])), (h_examples_words, .inr (10, [.ref h_examples_words_costs, .ref h_examples_words_highs, .ref h_examples_words_lows])), (h_examples_words_costs, .inl (tc.1, 362, .inl o4)), (h_examples_words_highs, .inl (tc.2.1, 362, .inr (.inl o5))), (h_examples_words_lows, .inl (tc.2.1, 362, .inr (.inl o6)))]) (fun _ => rfl) (fun _ => rfl) (fun _ _ _ _ _ => rfl) (fun o9 o4 o5 o6 o7 o8 => ?_)
  exact j_iret C d11_exampleWord_32 rfl

theorem d11_exampleLength_0 : jda cX11_exampleLength 0 0 1 := Or.inl ⟨0, by decide +kernel⟩
theorem d11_exampleLength_1 : jdi cX11_exampleLength 1 1 2 := Or.inl ⟨1, by decide +kernel⟩
theorem d11_exampleLength_2 : jd cX11_exampleLength 2 (.invokevirtual 198) 3 5 := by decide +kernel
theorem d11_exampleLength_5 : jdb cX11_exampleLength 5 (.ifCond .eq 12) 12 17 8 := by decide +kernel
theorem d11_exampleLength_8 : jdi cX11_exampleLength 8 2 9 := Or.inl ⟨2, by decide +kernel⟩
theorem d11_exampleLength_9 : jdb cX11_exampleLength 9 (.ifCond .lt 8) 8 17 12 := by decide +kernel
theorem d11_exampleLength_12 : jdi cX11_exampleLength 12 2 13 := Or.inl ⟨2, by decide +kernel⟩
theorem d11_exampleLength_13 : jdk cX11_exampleLength 13 1 14 := Or.inl ⟨1, by decide +kernel⟩
theorem d11_exampleLength_14 : jdb cX11_exampleLength 14 (.if_icmp .le 5) 5 19 17 := by decide +kernel
theorem d11_exampleLength_17 : jdk cX11_exampleLength 17 (-1) 18 := Or.inl ⟨(-1), by decide +kernel⟩
theorem d11_exampleLength_18 : decode cX11_exampleLength 18 = .ok (.ireturn, 1) := by decide +kernel
theorem d11_exampleLength_19 : jda cX11_exampleLength 19 0 20 := Or.inl ⟨0, by decide +kernel⟩
theorem d11_exampleLength_20 : jd cX11_exampleLength 20 (.getfield 70) 3 23 := by decide +kernel
theorem d11_exampleLength_23 : jd cX11_exampleLength 23 (.getfield 179) 3 26 := by decide +kernel
theorem d11_exampleLength_26 : jda cX11_exampleLength 26 0 27 := Or.inl ⟨0, by decide +kernel⟩
theorem d11_exampleLength_27 : jdi cX11_exampleLength 27 1 28 := Or.inl ⟨1, by decide +kernel⟩
theorem d11_exampleLength_28 : jdi cX11_exampleLength 28 2 29 := Or.inl ⟨2, by decide +kernel⟩
theorem d11_exampleLength_29 : jd cX11_exampleLength 29 (.invokevirtual 210) 3 32 := by decide +kernel
theorem d11_exampleLength_32 : jd cX11_exampleLength 32 (.invokevirtual 186) 3 35 := by decide +kernel
theorem d11_exampleLength_35 : decode cX11_exampleLength 35 = .ok (.ireturn, 1) := by decide +kernel
set_option maxHeartbeats 4000000 in
set_option maxRecDepth 100000 in
theorem kX11_exampleLength (l : Launch) (D : va_G) (tc : jTC) (N : Nat) (h_ h_rules h_rules_codes h_table h_table_select h_table_possible h_examples h_examples_words h_examples_words_costs h_examples_words_highs h_examples_words_lows : Nat) (g_history g_sets g_setsBefore g_failure g_input g_parser g_repairer g_table_sets g_table_lowest : Value) (c_rules_codes : (Nat → Int32)) (c_rules_count : Int32) (c_table_select : (Nat → Int32)) (c_table_possible : (Nat → Int32)) (c_table_conflicts : Int32) (c_examples_words_costs : (Nat → Int32)) (c_examples_words_highs : (Nat → Int64)) (c_examples_words_lows : (Nat → Int64)) (c_examples_plainKnown : Int32) (c_examples_exampleKey : Int32) (p1 : Int32) (p2 : Int32) : ctI l D tc yX11_exampleLength (Cond.code yX11_exampleLength cX11_exampleLength 3 (some .int) :: jtb) ({ frames := 8, cells := 0, slots := 0, locals := 189 } : Room) [.ref h_, .int p1, .int p2] [(h_, .inr (11, [.ref h_rules, g_history, g_sets, g_setsBefore, .ref h_table, g_failure, g_input, g_parser, .ref h_examples, g_repairer])), (h_rules, .inr (6, [.ref h_rules_codes, .int c_rules_count])), (h_rules_codes, .inl (tc.1, 24, .inl c_rules_codes)), (h_table, .inr (8, [.ref h_rules, g_table_sets, .ref h_table_select, .ref h_table_possible, g_table_lowest, .int c_table_conflicts])), (h_table_select, .inl (tc.1, 24, .inl c_table_select)), (h_table_possible, .inl (tc.1, 72, .inl c_table_possible)), (h_examples, .inr (0, [.ref h_rules, .ref h_examples_words, .int c_examples_plainKnown, .int c_examples_exampleKey])), (h_examples_words, .inr (10, [.ref h_examples_words_costs, .ref h_examples_words_highs, .ref h_examples_words_lows])), (h_examples_words_costs, .inl (tc.1, 362, .inl c_examples_words_costs)), (h_examples_words_highs, .inl (tc.2.1, 362, .inr (.inl c_examples_words_highs))), (h_examples_words_lows, .inl (tc.2.1, 362, .inr (.inl c_examples_words_lows)))] (fX11_exampleLength N c_rules_codes c_rules_count c_table_select c_table_possible c_table_conflicts c_examples_words_costs c_examples_words_highs c_examples_words_lows c_examples_plainKnown c_examples_exampleKey p1 p2) (fun (u : (Nat → Int32) × (Nat → Int64) × (Nat → Int64) × Int32 × Int32) => [(h_, .inr (11, [.ref h_rules, g_history, g_sets, g_setsBefore, .ref h_table, g_failure, g_input, g_parser, .ref h_examples, g_repairer])), (h_rules, .inr (6, [.ref h_rules_codes, .int c_rules_count])), (h_rules_codes, .inl (tc.1, 24, .inl c_rules_codes)), (h_table, .inr (8, [.ref h_rules, g_table_sets, .ref h_table_select, .ref h_table_possible, g_table_lowest, .int c_table_conflicts])), (h_table_select, .inl (tc.1, 24, .inl c_table_select)), (h_table_possible, .inl (tc.1, 72, .inl c_table_possible)), (h_examples, .inr (0, [.ref h_rules, .ref h_examples_words, .int u.2.2.2.1, .int u.2.2.2.2])), (h_examples_words, .inr (10, [.ref h_examples_words_costs, .ref h_examples_words_highs, .ref h_examples_words_lows])), (h_examples_words_costs, .inl (tc.1, 362, .inl u.1)), (h_examples_words_highs, .inl (tc.2.1, 362, .inr (.inl u.2.1))), (h_examples_words_lows, .inl (tc.2.1, 362, .inr (.inl u.2.2.1)))]) := by
  refine ctI_of (lv0 := [(0, .ref h_), (1, .int p1), (2, .int p2)]) (by decide +kernel) (Nat.le_of_ble_eq_true rfl) rfl (fun X C => ?_)
  unfold fX11_exampleLength
  refine j_aload C d11_exampleLength_0 0 rfl ?_
  refine j_iload C d11_exampleLength_1 1 rfl ?_
  refine j_callVI0 (As := [.int p1]) C d11_exampleLength_2 mv11_198 (kX11_isConflict _ _ tc h_ h_table (.ref h_rules) g_history g_sets g_setsBefore g_failure g_input g_parser (.ref h_examples) g_repairer (.ref h_rules) g_table_sets (.ref h_table_select) (.ref h_table_possible) g_table_lowest c_table_conflicts p1) ⟨rfl, rfl, Nat.le_of_ble_eq_true rfl, Nat.le_of_ble_eq_true rfl⟩ rfl 0 rfl [0, 3] rfl rfl rfl (Nat.le_of_ble_eq_true rfl) (fun x1 => ?_)
  refine j_join 17 (fun v2 => [(h_, .inr (11, [.ref h_rules, g_history, g_sets, g_setsBefore, .ref h_table, g_failure, g_input, g_parser, .ref h_examples, g_repairer])), (h_rules, .inr (6, [.ref h_rules_codes, .int c_rules_count])), (h_rules_codes, .inl (tc.1, 24, .inl c_rules_codes)), (h_table, .inr (8, [.ref h_rules, g_table_sets, .ref h_table_select, .ref h_table_possible, g_table_lowest, .int c_table_conflicts])), (h_table_select, .inl (tc.1, 24, .inl c_table_select)), (h_table_possible, .inl (tc.1, 72, .inl c_table_possible)), (h_examples, .inr (0, [.ref h_rules, .ref h_examples_words, .int c_examples_plainKnown, .int c_examples_exampleKey])), (h_examples_words, .inr (10, [.ref h_examples_words_costs, .ref h_examples_words_highs, .ref h_examples_words_lows])), (h_examples_words_costs, .inl (tc.1, 362, .inl c_examples_words_costs)), (h_examples_words_highs, .inl (tc.2.1, 362, .inr (.inl c_examples_words_highs))), (h_examples_words_lows, .inl (tc.2.1, 362, .inr (.inl c_examples_words_lows)))]) (fun v2 => []) (fun v2 => []) (fun v2 => ?_) (fun k3 hk3 => ?_)
  · refine j_const C d11_exampleLength_17 ?_
    exact j_iret C d11_exampleLength_18 rfl
  · refine j_if_eq C d11_exampleLength_5 ?_ ?_
    · exact j_sub [] rfl (hk3 _)
    · refine j_iload C d11_exampleLength_8 2 rfl ?_
      refine j_if_lt C d11_exampleLength_9 ?_ ?_
      · exact j_sub [] rfl (hk3 _)
      · refine j_iload C d11_exampleLength_12 2 rfl ?_
        refine j_const C d11_exampleLength_13 ?_
        refine j_icmp_le C d11_exampleLength_14 ?_ ?_
        · refine j_aload C d11_exampleLength_19 0 rfl ?_
          refine j_get C d11_exampleLength_20 fl11_70 0 rfl rfl ?_
          refine j_get C d11_exampleLength_23 fl11_179 6 rfl rfl ?_
          refine j_aload C d11_exampleLength_26 0 rfl ?_
          refine j_iload C d11_exampleLength_27 1 rfl ?_
          refine j_iload C d11_exampleLength_28 2 rfl ?_
          refine j_callVI6 (As := [.int p1, .int p2]) C d11_exampleLength_29 mv11_210 (kX11_exampleWord _ _ tc N h_ h_rules h_rules_codes h_table h_table_select h_table_possible h_examples h_examples_words h_examples_words_costs h_examples_words_highs h_examples_words_lows g_history g_sets g_setsBefore g_failure g_input g_parser g_repairer g_table_sets g_table_lowest (.int c_table_conflicts) c_rules_codes c_rules_count c_table_select c_table_possible c_examples_words_costs c_examples_words_highs c_examples_words_lows c_examples_plainKnown c_examples_exampleKey p1 p2) ⟨rfl, rfl, Nat.le_of_ble_eq_true rfl, Nat.le_of_ble_eq_true rfl⟩ rfl 0 rfl [0, 1, 2, 3, 4, 5, 6, 7, 8, 9, 10] rfl rfl rfl (Nat.le_of_ble_eq_true rfl) (fun o4 o5 o6 o7 o8 => [(h_, .inr (11, [.ref h_rules, g_history, g_sets, g_setsBefore, .ref h_table, g_failure, g_input, g_parser, .ref h_examples, g_repairer])), (h_rules, .inr (6, [.ref h_rules_codes, .int c_rules_count])), (h_rules_codes, .inl (tc.1, 24, .inl c_rules_codes)), (h_table, .inr (8, [.ref h_rules, g_table_sets, .ref h_table_select, .ref h_table_possible, g_table_lowest, .int c_table_conflicts])), (h_table_select, .inl (tc.1, 24, .inl c_table_select)), (h_table_possible, .inl (tc.1, 72, .inl c_table_possible)), (h_examples, .inr (0, [.ref h_rules, .ref h_examples_words, .int o7, .int o8])), (h_examples_words, .inr (10, [.ref h_examples_words_costs, .ref h_examples_words_highs, .ref h_examples_words_lows])), (h_examples_words_costs, .inl (tc.1, 362, .inl o4)), (h_examples_words_highs, .inl (tc.2.1, 362, .inr (.inl o5))), (h_examples_words_lows, .inl (tc.2.1, 362, .inr (.inl o6)))]) (fun _ => rfl) (fun _ => rfl) (fun _ _ _ _ _ => rfl) (fun o9 o4 o5 o6 o7 o8 => ?_)
          refine j_callVI0 (As := [.int o9]) C d11_exampleLength_32 mv11_186 (kX10_lengthOf _ _ tc 362 h_examples_words h_examples_words_costs (.ref h_examples_words_highs) (.ref h_examples_words_lows) o4 o9) ⟨rfl, rfl, Nat.le_of_ble_eq_true rfl, Nat.le_of_ble_eq_true rfl⟩ rfl 7 rfl [7, 8] rfl rfl rfl (Nat.le_of_ble_eq_true rfl) (fun x10 => ?_)
          exact j_iret C d11_exampleLength_35 rfl
        · exact j_sub [] rfl (hk3 _)

theorem d11_exampleTerminal_0 : jda cX11_exampleTerminal 0 0 1 := Or.inl ⟨0, by decide +kernel⟩
theorem d11_exampleTerminal_1 : jdi cX11_exampleTerminal 1 1 2 := Or.inl ⟨1, by decide +kernel⟩
theorem d11_exampleTerminal_2 : jd cX11_exampleTerminal 2 (.invokevirtual 198) 3 5 := by decide +kernel
theorem d11_exampleTerminal_5 : jdb cX11_exampleTerminal 5 (.ifCond .eq 12) 12 17 8 := by decide +kernel
theorem d11_exampleTerminal_8 : jdi cX11_exampleTerminal 8 2 9 := Or.inl ⟨2, by decide +kernel⟩
theorem d11_exampleTerminal_9 : jdb cX11_exampleTerminal 9 (.ifCond .lt 8) 8 17 12 := by decide +kernel
theorem d11_exampleTerminal_12 : jdi cX11_exampleTerminal 12 2 13 := Or.inl ⟨2, by decide +kernel⟩
theorem d11_exampleTerminal_13 : jdk cX11_exampleTerminal 13 1 14 := Or.inl ⟨1, by decide +kernel⟩
theorem d11_exampleTerminal_14 : jdb cX11_exampleTerminal 14 (.if_icmp .le 5) 5 19 17 := by decide +kernel
theorem d11_exampleTerminal_17 : jdk cX11_exampleTerminal 17 (-1) 18 := Or.inl ⟨(-1), by decide +kernel⟩
theorem d11_exampleTerminal_18 : decode cX11_exampleTerminal 18 = .ok (.ireturn, 1) := by decide +kernel
theorem d11_exampleTerminal_19 : jda cX11_exampleTerminal 19 0 20 := Or.inl ⟨0, by decide +kernel⟩
theorem d11_exampleTerminal_20 : jd cX11_exampleTerminal 20 (.getfield 70) 3 23 := by decide +kernel
theorem d11_exampleTerminal_23 : jd cX11_exampleTerminal 23 (.getfield 179) 3 26 := by decide +kernel
theorem d11_exampleTerminal_26 : jda cX11_exampleTerminal 26 0 27 := Or.inl ⟨0, by decide +kernel⟩
theorem d11_exampleTerminal_27 : jdi cX11_exampleTerminal 27 1 28 := Or.inl ⟨1, by decide +kernel⟩
theorem d11_exampleTerminal_28 : jdi cX11_exampleTerminal 28 2 29 := Or.inl ⟨2, by decide +kernel⟩
theorem d11_exampleTerminal_29 : jd cX11_exampleTerminal 29 (.invokevirtual 210) 3 32 := by decide +kernel
theorem d11_exampleTerminal_32 : jdi cX11_exampleTerminal 32 3 33 := Or.inl ⟨3, by decide +kernel⟩
theorem d11_exampleTerminal_33 : jd cX11_exampleTerminal 33 (.invokevirtual 189) 3 36 := by decide +kernel
theorem d11_exampleTerminal_36 : decode cX11_exampleTerminal 36 = .ok (.ireturn, 1) := by decide +kernel
set_option maxHeartbeats 4000000 in
set_option maxRecDepth 100000 in
theorem kX11_exampleTerminal (l : Launch) (D : va_G) (tc : jTC) (N : Nat) (h_ h_rules h_rules_codes h_table h_table_select h_table_possible h_examples h_examples_words h_examples_words_costs h_examples_words_highs h_examples_words_lows : Nat) (g_history g_sets g_setsBefore g_failure g_input g_parser g_repairer g_table_sets g_table_lowest : Value) (c_rules_codes : (Nat → Int32)) (c_rules_count : Int32) (c_table_select : (Nat → Int32)) (c_table_possible : (Nat → Int32)) (c_table_conflicts : Int32) (c_examples_words_costs : (Nat → Int32)) (c_examples_words_highs : (Nat → Int64)) (c_examples_words_lows : (Nat → Int64)) (c_examples_plainKnown : Int32) (c_examples_exampleKey : Int32) (p1 : Int32) (p2 : Int32) (p3 : Int32) : ctI l D tc yX11_exampleTerminal (Cond.code yX11_exampleTerminal cX11_exampleTerminal 4 (some .int) :: jtb) ({ frames := 8, cells := 0, slots := 0, locals := 189 } : Room) [.ref h_, .int p1, .int p2, .int p3] [(h_, .inr (11, [.ref h_rules, g_history, g_sets, g_setsBefore, .ref h_table, g_failure, g_input, g_parser, .ref h_examples, g_repairer])), (h_rules, .inr (6, [.ref h_rules_codes, .int c_rules_count])), (h_rules_codes, .inl (tc.1, 24, .inl c_rules_codes)), (h_table, .inr (8, [.ref h_rules, g_table_sets, .ref h_table_select, .ref h_table_possible, g_table_lowest, .int c_table_conflicts])), (h_table_select, .inl (tc.1, 24, .inl c_table_select)), (h_table_possible, .inl (tc.1, 72, .inl c_table_possible)), (h_examples, .inr (0, [.ref h_rules, .ref h_examples_words, .int c_examples_plainKnown, .int c_examples_exampleKey])), (h_examples_words, .inr (10, [.ref h_examples_words_costs, .ref h_examples_words_highs, .ref h_examples_words_lows])), (h_examples_words_costs, .inl (tc.1, 362, .inl c_examples_words_costs)), (h_examples_words_highs, .inl (tc.2.1, 362, .inr (.inl c_examples_words_highs))), (h_examples_words_lows, .inl (tc.2.1, 362, .inr (.inl c_examples_words_lows)))] (fX11_exampleTerminal N c_rules_codes c_rules_count c_table_select c_table_possible c_table_conflicts c_examples_words_costs c_examples_words_highs c_examples_words_lows c_examples_plainKnown c_examples_exampleKey p1 p2 p3) (fun (u : (Nat → Int32) × (Nat → Int64) × (Nat → Int64) × Int32 × Int32) => [(h_, .inr (11, [.ref h_rules, g_history, g_sets, g_setsBefore, .ref h_table, g_failure, g_input, g_parser, .ref h_examples, g_repairer])), (h_rules, .inr (6, [.ref h_rules_codes, .int c_rules_count])), (h_rules_codes, .inl (tc.1, 24, .inl c_rules_codes)), (h_table, .inr (8, [.ref h_rules, g_table_sets, .ref h_table_select, .ref h_table_possible, g_table_lowest, .int c_table_conflicts])), (h_table_select, .inl (tc.1, 24, .inl c_table_select)), (h_table_possible, .inl (tc.1, 72, .inl c_table_possible)), (h_examples, .inr (0, [.ref h_rules, .ref h_examples_words, .int u.2.2.2.1, .int u.2.2.2.2])), (h_examples_words, .inr (10, [.ref h_examples_words_costs, .ref h_examples_words_highs, .ref h_examples_words_lows])), (h_examples_words_costs, .inl (tc.1, 362, .inl u.1)), (h_examples_words_highs, .inl (tc.2.1, 362, .inr (.inl u.2.1))), (h_examples_words_lows, .inl (tc.2.1, 362, .inr (.inl u.2.2.1)))]) := by
  refine ctI_of (lv0 := [(0, .ref h_), (1, .int p1), (2, .int p2), (3, .int p3)]) (by decide +kernel) (Nat.le_of_ble_eq_true rfl) rfl (fun X C => ?_)
  unfold fX11_exampleTerminal
  refine j_aload C d11_exampleTerminal_0 0 rfl ?_
  refine j_iload C d11_exampleTerminal_1 1 rfl ?_
  refine j_callVI0 (As := [.int p1]) C d11_exampleTerminal_2 mv11_198 (kX11_isConflict _ _ tc h_ h_table (.ref h_rules) g_history g_sets g_setsBefore g_failure g_input g_parser (.ref h_examples) g_repairer (.ref h_rules) g_table_sets (.ref h_table_select) (.ref h_table_possible) g_table_lowest c_table_conflicts p1) ⟨rfl, rfl, Nat.le_of_ble_eq_true rfl, Nat.le_of_ble_eq_true rfl⟩ rfl 0 rfl [0, 3] rfl rfl rfl (Nat.le_of_ble_eq_true rfl) (fun x1 => ?_)
  refine j_join 17 (fun v2 => [(h_, .inr (11, [.ref h_rules, g_history, g_sets, g_setsBefore, .ref h_table, g_failure, g_input, g_parser, .ref h_examples, g_repairer])), (h_rules, .inr (6, [.ref h_rules_codes, .int c_rules_count])), (h_rules_codes, .inl (tc.1, 24, .inl c_rules_codes)), (h_table, .inr (8, [.ref h_rules, g_table_sets, .ref h_table_select, .ref h_table_possible, g_table_lowest, .int c_table_conflicts])), (h_table_select, .inl (tc.1, 24, .inl c_table_select)), (h_table_possible, .inl (tc.1, 72, .inl c_table_possible)), (h_examples, .inr (0, [.ref h_rules, .ref h_examples_words, .int c_examples_plainKnown, .int c_examples_exampleKey])), (h_examples_words, .inr (10, [.ref h_examples_words_costs, .ref h_examples_words_highs, .ref h_examples_words_lows])), (h_examples_words_costs, .inl (tc.1, 362, .inl c_examples_words_costs)), (h_examples_words_highs, .inl (tc.2.1, 362, .inr (.inl c_examples_words_highs))), (h_examples_words_lows, .inl (tc.2.1, 362, .inr (.inl c_examples_words_lows)))]) (fun v2 => []) (fun v2 => []) (fun v2 => ?_) (fun k3 hk3 => ?_)
  · refine j_const C d11_exampleTerminal_17 ?_
    exact j_iret C d11_exampleTerminal_18 rfl
  · refine j_if_eq C d11_exampleTerminal_5 ?_ ?_
    · exact j_sub [] rfl (hk3 _)
    · refine j_iload C d11_exampleTerminal_8 2 rfl ?_
      refine j_if_lt C d11_exampleTerminal_9 ?_ ?_
      · exact j_sub [] rfl (hk3 _)
      · refine j_iload C d11_exampleTerminal_12 2 rfl ?_
        refine j_const C d11_exampleTerminal_13 ?_
        refine j_icmp_le C d11_exampleTerminal_14 ?_ ?_
        · refine j_aload C d11_exampleTerminal_19 0 rfl ?_
          refine j_get C d11_exampleTerminal_20 fl11_70 0 rfl rfl ?_
          refine j_get C d11_exampleTerminal_23 fl11_179 6 rfl rfl ?_
          refine j_aload C d11_exampleTerminal_26 0 rfl ?_
          refine j_iload C d11_exampleTerminal_27 1 rfl ?_
          refine j_iload C d11_exampleTerminal_28 2 rfl ?_
          refine j_callVI6 (As := [.int p1, .int p2]) C d11_exampleTerminal_29 mv11_210 (kX11_exampleWord _ _ tc N h_ h_rules h_rules_codes h_table h_table_select h_table_possible h_examples h_examples_words h_examples_words_costs h_examples_words_highs h_examples_words_lows g_history g_sets g_setsBefore g_failure g_input g_parser g_repairer g_table_sets g_table_lowest (.int c_table_conflicts) c_rules_codes c_rules_count c_table_select c_table_possible c_examples_words_costs c_examples_words_highs c_examples_words_lows c_examples_plainKnown c_examples_exampleKey p1 p2) ⟨rfl, rfl, Nat.le_of_ble_eq_true rfl, Nat.le_of_ble_eq_true rfl⟩ rfl 0 rfl [0, 1, 2, 3, 4, 5, 6, 7, 8, 9, 10] rfl rfl rfl (Nat.le_of_ble_eq_true rfl) (fun o4 o5 o6 o7 o8 => [(h_, .inr (11, [.ref h_rules, g_history, g_sets, g_setsBefore, .ref h_table, g_failure, g_input, g_parser, .ref h_examples, g_repairer])), (h_rules, .inr (6, [.ref h_rules_codes, .int c_rules_count])), (h_rules_codes, .inl (tc.1, 24, .inl c_rules_codes)), (h_table, .inr (8, [.ref h_rules, g_table_sets, .ref h_table_select, .ref h_table_possible, g_table_lowest, .int c_table_conflicts])), (h_table_select, .inl (tc.1, 24, .inl c_table_select)), (h_table_possible, .inl (tc.1, 72, .inl c_table_possible)), (h_examples, .inr (0, [.ref h_rules, .ref h_examples_words, .int o7, .int o8])), (h_examples_words, .inr (10, [.ref h_examples_words_costs, .ref h_examples_words_highs, .ref h_examples_words_lows])), (h_examples_words_costs, .inl (tc.1, 362, .inl o4)), (h_examples_words_highs, .inl (tc.2.1, 362, .inr (.inl o5))), (h_examples_words_lows, .inl (tc.2.1, 362, .inr (.inl o6)))]) (fun _ => rfl) (fun _ => rfl) (fun _ _ _ _ _ => rfl) (fun o9 o4 o5 o6 o7 o8 => ?_)
          refine j_iload C d11_exampleTerminal_32 3 rfl ?_
          refine j_callVI0 (As := [.int o9, .int p3]) C d11_exampleTerminal_33 mv11_189 (kX10_terminalOf _ _ tc 362 h_examples_words h_examples_words_costs h_examples_words_highs h_examples_words_lows o4 o5 o6 o9 p3) ⟨rfl, rfl, Nat.le_of_ble_eq_true rfl, Nat.le_of_ble_eq_true rfl⟩ rfl 7 rfl [7, 8, 9, 10] rfl rfl rfl (Nat.le_of_ble_eq_true rfl) (fun x10 => ?_)
          exact j_iret C d11_exampleTerminal_36 rfl
        · exact j_sub [] rfl (hk3 _)

theorem d11_check_0 : jda cX11_check 0 0 1 := Or.inl ⟨0, by decide +kernel⟩
theorem d11_check_1 : jd cX11_check 1 (.getfield 38) 3 4 := by decide +kernel
theorem d11_check_4 : jd cX11_check 4 (.getfield 195) 3 7 := by decide +kernel
theorem d11_check_7 : jdb cX11_check 7 (.ifCond .ne 5) 5 12 10 := by decide +kernel
theorem d11_check_10 : jdk cX11_check 10 0 11 := Or.inl ⟨0, by decide +kernel⟩
theorem d11_check_11 : decode cX11_check 11 = .ok (.ireturn, 1) := by decide +kernel
theorem d11_check_12 : jda cX11_check 12 0 13 := Or.inl ⟨0, by decide +kernel⟩
theorem d11_check_13 : jd cX11_check 13 (.getfield 38) 3 16 := by decide +kernel
theorem d11_check_16 : jdk cX11_check 16 0 17 := Or.inl ⟨0, by decide +kernel⟩
theorem d11_check_17 : jd cX11_check 17 (.invokevirtual 201) 3 20 := by decide +kernel
theorem d11_check_20 : jds cX11_check 20 1 21 := Or.inl ⟨1, by decide +kernel⟩
theorem d11_check_21 : jda cX11_check 21 0 22 := Or.inl ⟨0, by decide +kernel⟩
theorem d11_check_22 : jd cX11_check 22 (.getfield 45) 3 25 := by decide +kernel
theorem d11_check_25 : jdk cX11_check 25 8 27 := Or.inr (Or.inl ⟨8, by decide +kernel⟩)
theorem d11_check_27 : jda cX11_check 27 0 28 := Or.inl ⟨0, by decide +kernel⟩
theorem d11_check_28 : jd cX11_check 28 (.getfield 38) 3 31 := by decide +kernel
theorem d11_check_31 : jd cX11_check 31 (.getfield 195) 3 34 := by decide +kernel
theorem d11_check_34 : jd cX11_check 34 (.invokevirtual 105) 3 37 := by decide +kernel
theorem d11_check_37 : jda cX11_check 37 0 38 := Or.inl ⟨0, by decide +kernel⟩
theorem d11_check_38 : jd cX11_check 38 (.getfield 45) 3 41 := by decide +kernel
theorem d11_check_41 : jdk cX11_check 41 9 43 := Or.inr (Or.inl ⟨9, by decide +kernel⟩)
theorem d11_check_43 : jdi cX11_check 43 1 44 := Or.inl ⟨1, by decide +kernel⟩
theorem d11_check_44 : jdk cX11_check 44 0 45 := Or.inl ⟨0, by decide +kernel⟩
theorem d11_check_45 : jd cX11_check 45 (.invokestatic 204) 3 48 := by decide +kernel
theorem d11_check_48 : jd cX11_check 48 (.invokevirtual 109) 3 51 := by decide +kernel
theorem d11_check_51 : jda cX11_check 51 0 52 := Or.inl ⟨0, by decide +kernel⟩
theorem d11_check_52 : jd cX11_check 52 (.getfield 45) 3 55 := by decide +kernel
theorem d11_check_55 : jdk cX11_check 55 10 57 := Or.inr (Or.inl ⟨10, by decide +kernel⟩)
theorem d11_check_57 : jda cX11_check 57 0 58 := Or.inl ⟨0, by decide +kernel⟩
theorem d11_check_58 : jd cX11_check 58 (.getfield 38) 3 61 := by decide +kernel
theorem d11_check_61 : jdi cX11_check 61 1 62 := Or.inl ⟨1, by decide +kernel⟩
theorem d11_check_62 : jd cX11_check 62 (.invokevirtual 207) 3 65 := by decide +kernel
theorem d11_check_65 : jd cX11_check 65 (.iadd) 1 66 := by decide +kernel
theorem d11_check_66 : jdi cX11_check 66 1 67 := Or.inl ⟨1, by decide +kernel⟩
theorem d11_check_67 : jdk cX11_check 67 1 68 := Or.inl ⟨1, by decide +kernel⟩
theorem d11_check_68 : jd cX11_check 68 (.invokestatic 204) 3 71 := by decide +kernel
theorem d11_check_71 : jd cX11_check 71 (.invokevirtual 109) 3 74 := by decide +kernel
theorem d11_check_74 : jdk cX11_check 74 (-5) 76 := Or.inr (Or.inl ⟨(-5), by decide +kernel⟩)
theorem d11_check_76 : decode cX11_check 76 = .ok (.ireturn, 1) := by decide +kernel
set_option maxHeartbeats 4000000 in
set_option maxRecDepth 100000 in
theorem kX11_check (l : Launch) (D : va_G) (tc : jTC) (N : Nat) (h_ h_rules h_rules_codes h_sets h_sets_first h_table h_table_select h_table_possible h_failure h_failure_codes h_failure_details : Nat) (g_history g_setsBefore g_input g_parser g_examples g_repairer g_sets_follow g_sets_begins g_table_lowest : Value) (c_rules_codes : (Nat → Int32)) (c_rules_count : Int32) (c_sets_nullable : Int32) (c_sets_first : (Nat → Int32)) (c_table_select : (Nat → Int32)) (c_table_possible : (Nat → Int32)) (c_table_conflicts : Int32) (c_failure_codes : (Nat → Int32)) (c_failure_details : (Nat → Int32)) (c_failure_levels : Int32) : ctI l D tc yX11_check (Cond.code yX11_check cX11_check 2 (some .int) :: jtb) ({ frames := 5, cells := 0, slots := 0, locals := 112 } : Room) [.ref h_] [(h_, .inr (11, [.ref h_rules, g_history, .ref h_sets, g_setsBefore, .ref h_table, .ref h_failure, g_input, g_parser, g_examples, g_repairer])), (h_rules, .inr (6, [.ref h_rules_codes, .int c_rules_count])), (h_rules_codes, .inl (tc.1, 24, .inl c_rules_codes)), (h_sets, .inr (7, [.int c_sets_nullable, .ref h_sets_first, g_sets_follow, g_sets_begins])), (h_sets_first, .inl (tc.1, 8, .inl c_sets_first)), (h_table, .inr (8, [.ref h_rules, .ref h_sets, .ref h_table_select, .ref h_table_possible, g_table_lowest, .int c_table_conflicts])), (h_table_select, .inl (tc.1, 24, .inl c_table_select)), (h_table_possible, .inl (tc.1, 72, .inl c_table_possible)), (h_failure, .inr (1, [.ref h_failure_codes, .ref h_failure_details, .int c_failure_levels])), (h_failure_codes, .inl (tc.1, 3, .inl c_failure_codes)), (h_failure_details, .inl (tc.1, 3, .inl c_failure_details))] (fX11_check N c_rules_codes c_rules_count c_sets_nullable c_sets_first c_table_select c_table_possible c_table_conflicts c_failure_codes c_failure_details c_failure_levels) (fun (u : (Nat → Int32) × (Nat → Int32) × Int32) => [(h_, .inr (11, [.ref h_rules, g_history, .ref h_sets, g_setsBefore, .ref h_table, .ref h_failure, g_input, g_parser, g_examples, g_repairer])), (h_rules, .inr (6, [.ref h_rules_codes, .int c_rules_count])), (h_rules_codes, .inl (tc.1, 24, .inl c_rules_codes)), (h_sets, .inr (7, [.int c_sets_nullable, .ref h_sets_first, g_sets_follow, g_sets_begins])), (h_sets_first, .inl (tc.1, 8, .inl c_sets_first)), (h_table, .inr (8, [.ref h_rules, .ref h_sets, .ref h_table_select, .ref h_table_possible, g_table_lowest, .int c_table_conflicts])), (h_table_select, .inl (tc.1, 24, .inl c_table_select)), (h_table_possible, .inl (tc.1, 72, .inl c_table_possible)), (h_failure, .inr (1, [.ref h_failure_codes, .ref h_failure_details, .int u.2.2])), (h_failure_codes, .inl (tc.1, 3, .inl u.1)), (h_failure_details, .inl (tc.1, 3, .inl u.2.1))]) := by
  refine ctI_of (lv0 := [(0, .ref h_)]) (by decide +kernel) (Nat.le_of_ble_eq_true rfl) rfl (fun X C => ?_)
  unfold fX11_check
  refine j_aload C d11_check_0 0 rfl ?_
  refine j_get C d11_check_1 fl11_38 0 rfl rfl ?_
  refine j_get C d11_check_4 fl11_195 5 rfl rfl ?_
  refine j_if_ne C d11_check_7 ?_ ?_
  · refine j_aload C d11_check_12 0 rfl ?_
    refine j_get C d11_check_13 fl11_38 0 rfl rfl ?_
    refine j_const C d11_check_16 ?_
    refine j_callVI0 (As := [.int 0]) C d11_check_17 mv11_201 (kX8_conflictAt _ _ tc N h_table h_rules h_rules_codes h_table_select h_table_possible (.ref h_sets) g_table_lowest (.int c_table_conflicts) c_rules_codes c_rules_count c_table_select c_table_possible 0) ⟨rfl, rfl, Nat.le_of_ble_eq_true rfl, Nat.le_of_ble_eq_true rfl⟩ rfl 5 rfl [5, 1, 2, 6, 7] rfl rfl rfl (Nat.le_of_ble_eq_true rfl) (fun x1 => ?_)
    refine j_istore C d11_check_20 (by decide) (lv' := [(1, .int x1), (0, .ref h_)]) rfl ?_
    refine j_aload C d11_check_21 1 rfl ?_
    refine j_get C d11_check_22 fl11_45 0 rfl rfl ?_
    refine j_const C d11_check_25 ?_
    refine j_aload C d11_check_27 1 rfl ?_
    refine j_get C d11_check_28 fl11_38 0 rfl rfl ?_
    refine j_get C d11_check_31 fl11_195 5 rfl rfl ?_
    refine j_callVV3 (As := [.int 8, .int c_table_conflicts]) C d11_check_34 mv11_105 (kX1_begin _ _ tc h_failure h_failure_codes h_failure_details c_failure_codes c_failure_details c_failure_levels 8 c_table_conflicts) ⟨rfl, rfl, Nat.le_of_ble_eq_true rfl, Nat.le_of_ble_eq_true rfl⟩ rfl 8 rfl [8, 9, 10] rfl rfl rfl (Nat.le_of_ble_eq_true rfl) (fun o2 o3 o4 => [(h_, .inr (11, [.ref h_rules, g_history, .ref h_sets, g_setsBefore, .ref h_table, .ref h_failure, g_input, g_parser, g_examples, g_repairer])), (h_rules, .inr (6, [.ref h_rules_codes, .int c_rules_count])), (h_rules_codes, .inl (tc.1, 24, .inl c_rules_codes)), (h_sets, .inr (7, [.int c_sets_nullable, .ref h_sets_first, g_sets_follow, g_sets_begins])), (h_sets_first, .inl (tc.1, 8, .inl c_sets_first)), (h_table, .inr (8, [.ref h_rules, .ref h_sets, .ref h_table_select, .ref h_table_possible, g_table_lowest, .int c_table_conflicts])), (h_table_select, .inl (tc.1, 24, .inl c_table_select)), (h_table_possible, .inl (tc.1, 72, .inl c_table_possible)), (h_failure, .inr (1, [.ref h_failure_codes, .ref h_failure_details, .int o4])), (h_failure_codes, .inl (tc.1, 3, .inl o2)), (h_failure_details, .inl (tc.1, 3, .inl o3))]) (fun _ => rfl) (fun _ => rfl) (fun _ _ _ => rfl) (fun o2 o3 o4 => ?_)
    refine j_aload C d11_check_37 1 rfl ?_
    refine j_get C d11_check_38 fl11_45 0 rfl rfl ?_
    refine j_const C d11_check_41 ?_
    refine j_iload C d11_check_43 0 rfl ?_
    refine j_const C d11_check_44 ?_
    refine j_callSI0 (As := [.int x1, .int 0]) C d11_check_45 ms11_204 (kX8_partOf _ _ tc x1 0) ⟨rfl, rfl, Nat.le_of_ble_eq_true rfl, Nat.le_of_ble_eq_true rfl⟩ rfl [] rfl rfl rfl (Nat.le_of_ble_eq_true rfl) (fun x5 => ?_)
    refine j_callVV3 (As := [.int 9, .int x5]) C d11_check_48 mv11_109 (kX1_because _ _ tc h_failure h_failure_codes h_failure_details o2 o3 o4 9 x5) ⟨rfl, rfl, Nat.le_of_ble_eq_true rfl, Nat.le_of_ble_eq_true rfl⟩ rfl 8 rfl [8, 9, 10] rfl rfl rfl (Nat.le_of_ble_eq_true rfl) (fun o6 o7 o8 => [(h_, .inr (11, [.ref h_rules, g_history, .ref h_sets, g_setsBefore, .ref h_table, .ref h_failure, g_input, g_parser, g_examples, g_repairer])), (h_rules, .inr (6, [.ref h_rules_codes, .int c_rules_count])), (h_rules_codes, .inl (tc.1, 24, .inl c_rules_codes)), (h_sets, .inr (7, [.int c_sets_nullable, .ref h_sets_first, g_sets_follow, g_sets_begins])), (h_sets_first, .inl (tc.1, 8, .inl c_sets_first)), (h_table, .inr (8, [.ref h_rules, .ref h_sets, .ref h_table_select, .ref h_table_possible, g_table_lowest, .int c_table_conflicts])), (h_table_select, .inl (tc.1, 24, .inl c_table_select)), (h_table_possible, .inl (tc.1, 72, .inl c_table_possible)), (h_failure, .inr (1, [.ref h_failure_codes, .ref h_failure_details, .int o8])), (h_failure_codes, .inl (tc.1, 3, .inl o6)), (h_failure_details, .inl (tc.1, 3, .inl o7))]) (fun _ => rfl) (fun _ => rfl) (fun _ _ _ => rfl) (fun o6 o7 o8 => ?_)
    refine j_aload C d11_check_51 1 rfl ?_
    refine j_get C d11_check_52 fl11_45 0 rfl rfl ?_
    refine j_const C d11_check_55 ?_
    refine j_aload C d11_check_57 1 rfl ?_
    refine j_get C d11_check_58 fl11_38 0 rfl rfl ?_
    refine j_iload C d11_check_61 0 rfl ?_
    refine j_callVI0 (As := [.int x1]) C d11_check_62 mv11_207 (kX8_kindOf _ _ tc N h_table h_rules h_rules_codes h_sets h_sets_first (.ref h_table_select) (.ref h_table_possible) g_table_lowest (.int c_table_conflicts) g_sets_follow g_sets_begins c_rules_codes c_rules_count c_sets_nullable c_sets_first x1) ⟨rfl, rfl, Nat.le_of_ble_eq_true rfl, Nat.le_of_ble_eq_true rfl⟩ rfl 5 rfl [5, 1, 2, 3, 4] rfl rfl rfl (Nat.le_of_ble_eq_true rfl) (fun x9 => ?_)
    refine j_iadd C d11_check_65 ?_
    refine j_iload C d11_check_66 0 rfl ?_
    refine j_const C d11_check_67 ?_
    refine j_callSI0 (As := [.int x1, .int 1]) C d11_check_68 ms11_204 (kX8_partOf _ _ tc x1 1) ⟨rfl, rfl, Nat.le_of_ble_eq_true rfl, Nat.le_of_ble_eq_true rfl⟩ rfl [] rfl rfl rfl (Nat.le_of_ble_eq_true rfl) (fun x10 => ?_)
    refine j_callVV3 (As := [.int ((10 : Int32) + x9), .int x10]) C d11_check_71 mv11_109 (kX1_because _ _ tc h_failure h_failure_codes h_failure_details o6 o7 o8 ((10 : Int32) + x9) x10) ⟨rfl, rfl, Nat.le_of_ble_eq_true rfl, Nat.le_of_ble_eq_true rfl⟩ rfl 8 rfl [8, 9, 10] rfl rfl rfl (Nat.le_of_ble_eq_true rfl) (fun o11 o12 o13 => [(h_, .inr (11, [.ref h_rules, g_history, .ref h_sets, g_setsBefore, .ref h_table, .ref h_failure, g_input, g_parser, g_examples, g_repairer])), (h_rules, .inr (6, [.ref h_rules_codes, .int c_rules_count])), (h_rules_codes, .inl (tc.1, 24, .inl c_rules_codes)), (h_sets, .inr (7, [.int c_sets_nullable, .ref h_sets_first, g_sets_follow, g_sets_begins])), (h_sets_first, .inl (tc.1, 8, .inl c_sets_first)), (h_table, .inr (8, [.ref h_rules, .ref h_sets, .ref h_table_select, .ref h_table_possible, g_table_lowest, .int c_table_conflicts])), (h_table_select, .inl (tc.1, 24, .inl c_table_select)), (h_table_possible, .inl (tc.1, 72, .inl c_table_possible)), (h_failure, .inr (1, [.ref h_failure_codes, .ref h_failure_details, .int o13])), (h_failure_codes, .inl (tc.1, 3, .inl o11)), (h_failure_details, .inl (tc.1, 3, .inl o12))]) (fun _ => rfl) (fun _ => rfl) (fun _ _ _ => rfl) (fun o11 o12 o13 => ?_)
    refine j_const C d11_check_74 ?_
    exact j_iret C d11_check_76 rfl
  · refine j_const C d11_check_10 ?_
    exact j_iret C d11_check_11 rfl

theorem d11_setSynchronizing_0 : jdi cX11_setSynchronizing 0 1 1 := Or.inl ⟨1, by decide +kernel⟩
theorem d11_setSynchronizing_1 : jd cX11_setSynchronizing 1 (.invokestatic 90) 3 4 := by decide +kernel
theorem d11_setSynchronizing_4 : jdb cX11_setSynchronizing 4 (.ifCond .eq 14) 14 18 7 := by decide +kernel
theorem d11_setSynchronizing_7 : jdi cX11_setSynchronizing 7 2 8 := Or.inl ⟨2, by decide +kernel⟩
theorem d11_setSynchronizing_8 : jdb cX11_setSynchronizing 8 (.ifCond .lt 10) 10 18 11 := by decide +kernel
theorem d11_setSynchronizing_11 : jdi cX11_setSynchronizing 11 2 12 := Or.inl ⟨2, by decide +kernel⟩
theorem d11_setSynchronizing_12 : jdk cX11_setSynchronizing 12 511 15 := Or.inr (Or.inr ⟨511, by decide +kernel⟩)
theorem d11_setSynchronizing_15 : jdb cX11_setSynchronizing 15 (.if_icmp .le 5) 5 20 18 := by decide +kernel
theorem d11_setSynchronizing_18 : jdk cX11_setSynchronizing 18 (-1) 19 := Or.inl ⟨(-1), by decide +kernel⟩
theorem d11_setSynchronizing_19 : decode cX11_setSynchronizing 19 = .ok (.ireturn, 1) := by decide +kernel
theorem d11_setSynchronizing_20 : jda cX11_setSynchronizing 20 0 21 := Or.inl ⟨0, by decide +kernel⟩
theorem d11_setSynchronizing_21 : jd cX11_setSynchronizing 21 (.getfield 61) 3 24 := by decide +kernel
theorem d11_setSynchronizing_24 : jd cX11_setSynchronizing 24 (.getfield 243) 3 27 := by decide +kernel
theorem d11_setSynchronizing_27 : jdi cX11_setSynchronizing 27 1 28 := Or.inl ⟨1, by decide +kernel⟩
theorem d11_setSynchronizing_28 : jd cX11_setSynchronizing 28 (.iaload) 1 29 := by decide +kernel
theorem d11_setSynchronizing_29 : jds cX11_setSynchronizing 29 3 30 := Or.inl ⟨3, by decide +kernel⟩
theorem d11_setSynchronizing_30 : jda cX11_setSynchronizing 30 0 31 := Or.inl ⟨0, by decide +kernel⟩
theorem d11_setSynchronizing_31 : jd cX11_setSynchronizing 31 (.getfield 61) 3 34 := by decide +kernel
theorem d11_setSynchronizing_34 : jd cX11_setSynchronizing 34 (.getfield 243) 3 37 := by decide +kernel
theorem d11_setSynchronizing_37 : jdi cX11_setSynchronizing 37 1 38 := Or.inl ⟨1, by decide +kernel⟩
theorem d11_setSynchronizing_38 : jdi cX11_setSynchronizing 38 2 39 := Or.inl ⟨2, by decide +kernel⟩
theorem d11_setSynchronizing_39 : jd cX11_setSynchronizing 39 (.iastore) 1 40 := by decide +kernel
theorem d11_setSynchronizing_40 : jdi cX11_setSynchronizing 40 3 41 := Or.inl ⟨3, by decide +kernel⟩
theorem d11_setSynchronizing_41 : decode cX11_setSynchronizing 41 = .ok (.ireturn, 1) := by decide +kernel
set_option maxHeartbeats 4000000 in
set_option maxRecDepth 100000 in
theorem kX11_setSynchronizing (l : Launch) (D : va_G) (tc : jTC) (h_ h_parser h_parser_synchronizing : Nat) (g_rules g_history g_sets g_setsBefore g_table g_failure g_input g_examples g_repairer g_parser_rules g_parser_sets g_parser_table g_parser_input g_parser_trace g_parser_traceLength g_parser_tree g_parser_errorParts g_parser_errorCount g_parser_stack g_parser_bringers g_parser_depth g_parser_index g_parser_steps : Value) (c_parser_synchronizing : (Nat → Int32)) (p1 : Int32) (p2 : Int32) : ctI l D tc yX11_setSynchronizing (Cond.code yX11_setSynchronizing cX11_setSynchronizing 4 (some .int) :: jtb) ({ frames := 1, cells := 0, slots := 0, locals := 20 } : Room) [.ref h_, .int p1, .int p2] [(h_, .inr (11, [g_rules, g_history, g_sets, g_setsBefore, g_table, g_failure, g_input, .ref h_parser, g_examples, g_repairer])), (h_parser, .inr (4, [g_parser_rules, g_parser_sets, g_parser_table, g_parser_input, .ref h_parser_synchronizing, g_parser_trace, g_parser_traceLength, g_parser_tree, g_parser_errorParts, g_parser_errorCount, g_parser_stack, g_parser_bringers, g_parser_depth, g_parser_index, g_parser_steps])), (h_parser_synchronizing, .inl (tc.1, 8, .inl c_parser_synchronizing))] (fX11_setSynchronizing c_parser_synchronizing p1 p2) (fun (u : (Nat → Int32)) => [(h_, .inr (11, [g_rules, g_history, g_sets, g_setsBefore, g_table, g_failure, g_input, .ref h_parser, g_examples, g_repairer])), (h_parser, .inr (4, [g_parser_rules, g_parser_sets, g_parser_table, g_parser_input, .ref h_parser_synchronizing, g_parser_trace, g_parser_traceLength, g_parser_tree, g_parser_errorParts, g_parser_errorCount, g_parser_stack, g_parser_bringers, g_parser_depth, g_parser_index, g_parser_steps])), (h_parser_synchronizing, .inl (tc.1, 8, .inl u))]) := by
  refine ctI_of (lv0 := [(0, .ref h_), (1, .int p1), (2, .int p2)]) (by decide +kernel) (Nat.le_of_ble_eq_true rfl) rfl (fun X C => ?_)
  unfold fX11_setSynchronizing
  refine j_iload C d11_setSynchronizing_0 1 rfl ?_
  refine j_callSI0 (As := [.int p1]) C d11_setSynchronizing_1 ms11_90 (kX11_isNonterminal _ _ tc p1) ⟨rfl, rfl, Nat.le_of_ble_eq_true rfl, Nat.le_of_ble_eq_true rfl⟩ rfl [] rfl rfl rfl (Nat.le_of_ble_eq_true rfl) (fun x1 => ?_)
  refine j_join 18 (fun v2 => [(h_, .inr (11, [g_rules, g_history, g_sets, g_setsBefore, g_table, g_failure, g_input, .ref h_parser, g_examples, g_repairer])), (h_parser, .inr (4, [g_parser_rules, g_parser_sets, g_parser_table, g_parser_input, .ref h_parser_synchronizing, g_parser_trace, g_parser_traceLength, g_parser_tree, g_parser_errorParts, g_parser_errorCount, g_parser_stack, g_parser_bringers, g_parser_depth, g_parser_index, g_parser_steps])), (h_parser_synchronizing, .inl (tc.1, 8, .inl c_parser_synchronizing))]) (fun v2 => []) (fun v2 => []) (fun v2 => ?_) (fun k3 hk3 => ?_)
  · refine j_const C d11_setSynchronizing_18 ?_
    exact j_iret C d11_setSynchronizing_19 rfl
  · refine j_if_eq C d11_setSynchronizing_4 ?_ ?_
    · exact j_sub [] rfl (hk3 _)
    · refine j_iload C d11_setSynchronizing_7 2 rfl ?_
      refine j_if_lt C d11_setSynchronizing_8 ?_ ?_
      · exact j_sub [] rfl (hk3 _)
      · refine j_iload C d11_setSynchronizing_11 2 rfl ?_
        refine j_const C d11_setSynchronizing_12 ?_
        refine j_icmp_le C d11_setSynchronizing_15 ?_ ?_
        · refine j_aload C d11_setSynchronizing_20 0 rfl ?_
          refine j_get C d11_setSynchronizing_21 fl11_61 0 rfl rfl ?_
          refine j_get C d11_setSynchronizing_24 fl11_243 1 rfl rfl ?_
          refine j_iload C d11_setSynchronizing_27 1 rfl ?_
          refine j_iald C d11_setSynchronizing_28 2 rfl (fun x4 => ?_)
          refine j_istore C d11_setSynchronizing_29 (by decide) (lv' := [(3, .int x4), (0, .ref h_), (1, .int p1), (2, .int p2)]) rfl ?_
          refine j_aload C d11_setSynchronizing_30 1 rfl ?_
          refine j_get C d11_setSynchronizing_31 fl11_61 0 rfl rfl ?_
          refine j_get C d11_setSynchronizing_34 fl11_243 1 rfl rfl ?_
          refine j_iload C d11_setSynchronizing_37 2 rfl ?_
          refine j_iload C d11_setSynchronizing_38 3 rfl ?_
          refine j_iast C (fun f5 => [(h_, .inr (11, [g_rules, g_history, g_sets, g_setsBefore, g_table, g_failure, g_input, .ref h_parser, g_examples, g_repairer])), (h_parser, .inr (4, [g_parser_rules, g_parser_sets, g_parser_table, g_parser_input, .ref h_parser_synchronizing, g_parser_trace, g_parser_traceLength, g_parser_tree, g_parser_errorParts, g_parser_errorCount, g_parser_stack, g_parser_bringers, g_parser_depth, g_parser_index, g_parser_steps])), (h_parser_synchronizing, .inl (tc.1, 8, .inl f5))]) d11_setSynchronizing_39 2 rfl (fun _ => rfl) (fun f5 => ?_)
          refine j_iload C d11_setSynchronizing_40 0 rfl ?_
          exact j_iret C d11_setSynchronizing_41 rfl
        · exact j_sub [] rfl (hk3 _)

theorem d11_appendInput_0 : jdi cX11_appendInput 0 1 1 := Or.inl ⟨1, by decide +kernel⟩
theorem d11_appendInput_1 : jd cX11_appendInput 1 (.invokestatic 246) 3 4 := by decide +kernel
theorem d11_appendInput_4 : jds cX11_appendInput 4 2 5 := Or.inl ⟨2, by decide +kernel⟩
theorem d11_appendInput_5 : jdi cX11_appendInput 5 2 6 := Or.inl ⟨2, by decide +kernel⟩
theorem d11_appendInput_6 : jdb cX11_appendInput 6 (.ifCond .ne 5) 5 11 9 := by decide +kernel
theorem d11_appendInput_9 : jdk cX11_appendInput 9 (-1) 10 := Or.inl ⟨(-1), by decide +kernel⟩
theorem d11_appendInput_10 : decode cX11_appendInput 10 = .ok (.ireturn, 1) := by decide +kernel
theorem d11_appendInput_11 : jda cX11_appendInput 11 0 12 := Or.inl ⟨0, by decide +kernel⟩
theorem d11_appendInput_12 : jd cX11_appendInput 12 (.getfield 52) 3 15 := by decide +kernel
theorem d11_appendInput_15 : jd cX11_appendInput 15 (.getfield 249) 3 18 := by decide +kernel
theorem d11_appendInput_18 : jdi cX11_appendInput 18 2 19 := Or.inl ⟨2, by decide +kernel⟩
theorem d11_appendInput_19 : jd cX11_appendInput 19 (.iadd) 1 20 := by decide +kernel
theorem d11_appendInput_20 : jdk cX11_appendInput 20 40 22 := Or.inr (Or.inl ⟨40, by decide +kernel⟩)
theorem d11_appendInput_22 : jdb cX11_appendInput 22 (.if_icmp .le 6) 6 28 25 := by decide +kernel
theorem d11_appendInput_25 : jdk cX11_appendInput 25 (-3) 27 := Or.inr (Or.inl ⟨(-3), by decide +kernel⟩)
theorem d11_appendInput_27 : decode cX11_appendInput 27 = .ok (.ireturn, 1) := by decide +kernel
theorem d11_appendInput_28 : jda cX11_appendInput 28 0 29 := Or.inl ⟨0, by decide +kernel⟩
theorem d11_appendInput_29 : jd cX11_appendInput 29 (.getfield 52) 3 32 := by decide +kernel
theorem d11_appendInput_32 : jdi cX11_appendInput 32 1 33 := Or.inl ⟨1, by decide +kernel⟩
theorem d11_appendInput_33 : jdi cX11_appendInput 33 2 34 := Or.inl ⟨2, by decide +kernel⟩
theorem d11_appendInput_34 : jd cX11_appendInput 34 (.invokevirtual 252) 3 37 := by decide +kernel
theorem d11_appendInput_37 : jda cX11_appendInput 37 0 38 := Or.inl ⟨0, by decide +kernel⟩
theorem d11_appendInput_38 : jd cX11_appendInput 38 (.getfield 52) 3 41 := by decide +kernel
theorem d11_appendInput_41 : jd cX11_appendInput 41 (.getfield 249) 3 44 := by decide +kernel
theorem d11_appendInput_44 : decode cX11_appendInput 44 = .ok (.ireturn, 1) := by decide +kernel
set_option maxHeartbeats 4000000 in
set_option maxRecDepth 100000 in
theorem kX11_appendInput (l : Launch) (D : va_G) (tc : jTC) (N : Nat) (h_ h_input h_input_terminals : Nat) (g_rules g_history g_sets g_setsBefore g_table g_failure g_parser g_examples g_repairer : Value) (c_input_terminals : (Nat → Int32)) (c_input_length : Int32) (p1 : Int32) : ctI l D tc yX11_appendInput (Cond.code yX11_appendInput cX11_appendInput 3 (some .int) :: jtb) ({ frames := 1, cells := 0, slots := 0, locals := 24 } : Room) [.ref h_, .int p1] [(h_, .inr (11, [g_rules, g_history, g_sets, g_setsBefore, g_table, g_failure, .ref h_input, g_parser, g_examples, g_repairer])), (h_input, .inr (3, [.ref h_input_terminals, .int c_input_length])), (h_input_terminals, .inl (tc.1, 40, .inl c_input_terminals))] (fX11_appendInput N c_input_terminals c_input_length p1) (fun (u : (Nat → Int32) × Int32) => [(h_, .inr (11, [g_rules, g_history, g_sets, g_setsBefore, g_table, g_failure, .ref h_input, g_parser, g_examples, g_repairer])), (h_input, .inr (3, [.ref h_input_terminals, .int u.2])), (h_input_terminals, .inl (tc.1, 40, .inl u.1))]) := by
  refine ctI_of (lv0 := [(0, .ref h_), (1, .int p1)]) (by decide +kernel) (Nat.le_of_ble_eq_true rfl) rfl (fun X C => ?_)
  unfold fX11_appendInput
  refine j_iload C d11_appendInput_0 1 rfl ?_
  refine j_callSI0 (As := [.int p1]) C d11_appendInput_1 ms11_246 (kX3_terminalsIn _ _ tc N p1) ⟨rfl, rfl, Nat.le_of_ble_eq_true rfl, Nat.le_of_ble_eq_true rfl⟩ rfl [] rfl rfl rfl (Nat.le_of_ble_eq_true rfl) (fun x1 => ?_)
  refine j_istore C d11_appendInput_4 (by decide) (lv' := [(2, .int x1), (0, .ref h_), (1, .int p1)]) rfl ?_
  refine j_iload C d11_appendInput_5 0 rfl ?_
  refine j_if_ne C d11_appendInput_6 ?_ ?_
  · refine j_aload C d11_appendInput_11 1 rfl ?_
    refine j_get C d11_appendInput_12 fl11_52 0 rfl rfl ?_
    refine j_get C d11_appendInput_15 fl11_249 1 rfl rfl ?_
    refine j_iload C d11_appendInput_18 0 rfl ?_
    refine j_iadd C d11_appendInput_19 ?_
    refine j_const C d11_appendInput_20 ?_
    refine j_icmp_le C d11_appendInput_22 ?_ ?_
    · refine j_aload C d11_appendInput_28 1 rfl ?_
      refine j_get C d11_appendInput_29 fl11_52 0 rfl rfl ?_
      refine j_iload C d11_appendInput_32 2 rfl ?_
      refine j_iload C d11_appendInput_33 0 rfl ?_
      refine j_callVV2 (As := [.int p1, .int x1]) C d11_appendInput_34 mv11_252 (kX3_append _ _ tc N h_input h_input_terminals c_input_terminals c_input_length p1 x1) ⟨rfl, rfl, Nat.le_of_ble_eq_true rfl, Nat.le_of_ble_eq_true rfl⟩ rfl 1 rfl [1, 2] rfl rfl rfl (Nat.le_of_ble_eq_true rfl) (fun o2 o3 => [(h_, .inr (11, [g_rules, g_history, g_sets, g_setsBefore, g_table, g_failure, .ref h_input, g_parser, g_examples, g_repairer])), (h_input, .inr (3, [.ref h_input_terminals, .int o3])), (h_input_terminals, .inl (tc.1, 40, .inl o2))]) (fun _ => rfl) (fun _ => rfl) (fun _ _ => rfl) (fun o2 o3 => ?_)
      refine j_aload C d11_appendInput_37 1 rfl ?_
      refine j_get C d11_appendInput_38 fl11_52 0 rfl rfl ?_
      refine j_get C d11_appendInput_41 fl11_249 1 rfl rfl ?_
      exact j_iret C d11_appendInput_44 rfl
    · refine j_const C d11_appendInput_25 ?_
      exact j_iret C d11_appendInput_27 rfl
  · refine j_const C d11_appendInput_9 ?_
    exact j_iret C d11_appendInput_10 rfl

theorem d11_clearInput_0 : jda cX11_clearInput 0 0 1 := Or.inl ⟨0, by decide +kernel⟩
theorem d11_clearInput_1 : jd cX11_clearInput 1 (.getfield 52) 3 4 := by decide +kernel
theorem d11_clearInput_4 : jd cX11_clearInput 4 (.getfield 249) 3 7 := by decide +kernel
theorem d11_clearInput_7 : jds cX11_clearInput 7 1 8 := Or.inl ⟨1, by decide +kernel⟩
theorem d11_clearInput_8 : jda cX11_clearInput 8 0 9 := Or.inl ⟨0, by decide +kernel⟩
theorem d11_clearInput_9 : jd cX11_clearInput 9 (.getfield 52) 3 12 := by decide +kernel
theorem d11_clearInput_12 : jdk cX11_clearInput 12 0 13 := Or.inl ⟨0, by decide +kernel⟩
theorem d11_clearInput_13 : jd cX11_clearInput 13 (.putfield 249) 3 16 := by decide +kernel
theorem d11_clearInput_16 : jdi cX11_clearInput 16 1 17 := Or.inl ⟨1, by decide +kernel⟩
theorem d11_clearInput_17 : decode cX11_clearInput 17 = .ok (.ireturn, 1) := by decide +kernel
set_option maxHeartbeats 4000000 in
set_option maxRecDepth 100000 in
theorem kX11_clearInput (l : Launch) (D : va_G) (tc : jTC) (h_ h_input : Nat) (g_rules g_history g_sets g_setsBefore g_table g_failure g_parser g_examples g_repairer g_input_terminals : Value) (c_input_length : Int32) : ctI l D tc yX11_clearInput (Cond.code yX11_clearInput cX11_clearInput 2 (some .int) :: jtb) ({ frames := 0, cells := 0, slots := 0, locals := 0 } : Room) [.ref h_] [(h_, .inr (11, [g_rules, g_history, g_sets, g_setsBefore, g_table, g_failure, .ref h_input, g_parser, g_examples, g_repairer])), (h_input, .inr (3, [g_input_terminals, .int c_input_length]))] (fX11_clearInput c_input_length) (fun (u : Int32) => [(h_, .inr (11, [g_rules, g_history, g_sets, g_setsBefore, g_table, g_failure, .ref h_input, g_parser, g_examples, g_repairer])), (h_input, .inr (3, [g_input_terminals, .int u]))]) := by
  refine ctI_of (lv0 := [(0, .ref h_)]) (by decide +kernel) (Nat.le_of_ble_eq_true rfl) rfl (fun X C => ?_)
  unfold fX11_clearInput
  refine j_aload C d11_clearInput_0 0 rfl ?_
  refine j_get C d11_clearInput_1 fl11_52 0 rfl rfl ?_
  refine j_get C d11_clearInput_4 fl11_249 1 rfl rfl ?_
  refine j_istore C d11_clearInput_7 (by decide) (lv' := [(1, .int c_input_length), (0, .ref h_)]) rfl ?_
  refine j_aload C d11_clearInput_8 1 rfl ?_
  refine j_get C d11_clearInput_9 fl11_52 0 rfl rfl ?_
  refine j_const C d11_clearInput_12 ?_
  refine j_putq C d11_clearInput_13 fq11_249 1 rfl rfl rfl (Nat.le_of_ble_eq_true rfl) (ws' := [(h_, .inr (11, [g_rules, g_history, g_sets, g_setsBefore, g_table, g_failure, .ref h_input, g_parser, g_examples, g_repairer])), (h_input, .inr (3, [g_input_terminals, .int 0]))]) rfl ?_
  refine j_iload C d11_clearInput_16 0 rfl ?_
  exact j_iret C d11_clearInput_17 rfl

theorem d11_inputTerminal_0 : jdi cX11_inputTerminal 0 1 1 := Or.inl ⟨1, by decide +kernel⟩
theorem d11_inputTerminal_1 : jdb cX11_inputTerminal 1 (.ifCond .lt 26) 26 27 4 := by decide +kernel
theorem d11_inputTerminal_4 : jdi cX11_inputTerminal 4 1 5 := Or.inl ⟨1, by decide +kernel⟩
theorem d11_inputTerminal_5 : jda cX11_inputTerminal 5 0 6 := Or.inl ⟨0, by decide +kernel⟩
theorem d11_inputTerminal_6 : jd cX11_inputTerminal 6 (.getfield 52) 3 9 := by decide +kernel
theorem d11_inputTerminal_9 : jd cX11_inputTerminal 9 (.getfield 249) 3 12 := by decide +kernel
theorem d11_inputTerminal_12 : jdb cX11_inputTerminal 12 (.if_icmp .ge 15) 15 27 15 := by decide +kernel
theorem d11_inputTerminal_15 : jda cX11_inputTerminal 15 0 16 := Or.inl ⟨0, by decide +kernel⟩
theorem d11_inputTerminal_16 : jd cX11_inputTerminal 16 (.getfield 52) 3 19 := by decide +kernel
theorem d11_inputTerminal_19 : jd cX11_inputTerminal 19 (.getfield 255) 3 22 := by decide +kernel
theorem d11_inputTerminal_22 : jdi cX11_inputTerminal 22 1 23 := Or.inl ⟨1, by decide +kernel⟩
theorem d11_inputTerminal_23 : jd cX11_inputTerminal 23 (.iaload) 1 24 := by decide +kernel
theorem d11_inputTerminal_24 : jdb cX11_inputTerminal 24 (.goto 5) 5 29 27 := by decide +kernel
theorem d11_inputTerminal_27 : jdk cX11_inputTerminal 27 (-2) 29 := Or.inr (Or.inl ⟨(-2), by decide +kernel⟩)
theorem d11_inputTerminal_29 : decode cX11_inputTerminal 29 = .ok (.ireturn, 1) := by decide +kernel
set_option maxHeartbeats 4000000 in
set_option maxRecDepth 100000 in
theorem kX11_inputTerminal (l : Launch) (D : va_G) (tc : jTC) (h_ h_input h_input_terminals : Nat) (g_rules g_history g_sets g_setsBefore g_table g_failure g_parser g_examples g_repairer : Value) (c_input_terminals : (Nat → Int32)) (c_input_length : Int32) (p1 : Int32) : ctI0 l D tc yX11_inputTerminal (Cond.code yX11_inputTerminal cX11_inputTerminal 2 (some .int) :: jtb) ({ frames := 0, cells := 0, slots := 0, locals := 0 } : Room) [.ref h_, .int p1] [(h_, .inr (11, [g_rules, g_history, g_sets, g_setsBefore, g_table, g_failure, .ref h_input, g_parser, g_examples, g_repairer])), (h_input, .inr (3, [.ref h_input_terminals, .int c_input_length])), (h_input_terminals, .inl (tc.1, 40, .inl c_input_terminals))] (fX11_inputTerminal c_input_terminals c_input_length p1) := by
  refine ctI0_of (lv0 := [(0, .ref h_), (1, .int p1)]) (by decide +kernel) (Nat.le_of_ble_eq_true rfl) rfl (fun X C => ?_)
  unfold fX11_inputTerminal
  refine j_iload C d11_inputTerminal_0 1 rfl ?_
  refine j_join 29 (fun v1 => [(h_, .inr (11, [g_rules, g_history, g_sets, g_setsBefore, g_table, g_failure, .ref h_input, g_parser, g_examples, g_repairer])), (h_input, .inr (3, [.ref h_input_terminals, .int c_input_length])), (h_input_terminals, .inl (tc.1, 40, .inl c_input_terminals))]) (fun v1 => []) (fun v1 => [.int v1]) (fun v1 => ?_) (fun k2 hk2 => ?_)
  · exact j_iret0 C d11_inputTerminal_29
  · refine j_join 27 (fun v3 => [(h_, .inr (11, [g_rules, g_history, g_sets, g_setsBefore, g_table, g_failure, .ref h_input, g_parser, g_examples, g_repairer])), (h_input, .inr (3, [.ref h_input_terminals, .int c_input_length])), (h_input_terminals, .inl (tc.1, 40, .inl c_input_terminals))]) (fun v3 => []) (fun v3 => []) (fun v3 => ?_) (fun k4 hk4 => ?_)
    · refine j_const C d11_inputTerminal_27 ?_
      exact hk2 _
    · refine j_if_lt C d11_inputTerminal_1 ?_ ?_
      · exact j_sub [] rfl (hk4 _)
      · refine j_iload C d11_inputTerminal_4 1 rfl ?_
        refine j_aload C d11_inputTerminal_5 0 rfl ?_
        refine j_get C d11_inputTerminal_6 fl11_52 0 rfl rfl ?_
        refine j_get C d11_inputTerminal_9 fl11_249 1 rfl rfl ?_
        refine j_icmp_ge C d11_inputTerminal_12 ?_ ?_
        · exact j_sub [] rfl (hk4 _)
        · refine j_aload C d11_inputTerminal_15 0 rfl ?_
          refine j_get C d11_inputTerminal_16 fl11_52 0 rfl rfl ?_
          refine j_get C d11_inputTerminal_19 fl11_255 1 rfl rfl ?_
          refine j_iload C d11_inputTerminal_22 1 rfl ?_
          refine j_iald C d11_inputTerminal_23 2 rfl (fun x5 => ?_)
          refine j_goto C d11_inputTerminal_24 ?_
          exact j_sub [] rfl (hk2 _)

theorem d11_parse_0 : jda cX11_parse 0 0 1 := Or.inl ⟨0, by decide +kernel⟩
theorem d11_parse_1 : jd cX11_parse 1 (.getfield 61) 3 4 := by decide +kernel
theorem d11_parse_4 : jd cX11_parse 4 (.invokevirtual 258) 3 7 := by decide +kernel
theorem d11_parse_7 : jds cX11_parse 7 1 8 := Or.inl ⟨1, by decide +kernel⟩
theorem d11_parse_8 : jdi cX11_parse 8 1 9 := Or.inl ⟨1, by decide +kernel⟩
theorem d11_parse_9 : jdb cX11_parse 9 (.ifCond .ge 15) 15 24 12 := by decide +kernel
theorem d11_parse_12 : jda cX11_parse 12 0 13 := Or.inl ⟨0, by decide +kernel⟩
theorem d11_parse_13 : jd cX11_parse 13 (.getfield 61) 3 16 := by decide +kernel
theorem d11_parse_16 : jda cX11_parse 16 0 17 := Or.inl ⟨0, by decide +kernel⟩
theorem d11_parse_17 : jd cX11_parse 17 (.getfield 45) 3 20 := by decide +kernel
theorem d11_parse_20 : jdi cX11_parse 20 1 21 := Or.inl ⟨1, by decide +kernel⟩
theorem d11_parse_21 : jd cX11_parse 21 (.invokevirtual 262) 3 24 := by decide +kernel
theorem d11_parse_24 : jdi cX11_parse 24 1 25 := Or.inl ⟨1, by decide +kernel⟩
theorem d11_parse_25 : decode cX11_parse 25 = .ok (.ireturn, 1) := by decide +kernel
set_option maxHeartbeats 4000000 in
set_option maxRecDepth 100000 in
theorem kX11_parse (l : Launch) (D : va_G) (tc : jTC) (N : Nat) (h_ h_rules h_rules_codes h_table h_table_possible h_table_lowest h_failure h_failure_codes h_failure_details h_input h_input_terminals h_parser h_parser_trace h_parser_tree h_parser_tree_symbols h_parser_tree_parents h_parser_tree_heights h_parser_stack h_parser_bringers : Nat) (g_history g_sets g_setsBefore g_examples g_repairer g_table_sets g_table_select g_table_conflicts g_parser_sets g_parser_synchronizing g_parser_errorParts g_parser_errorCount : Value) (c_rules_codes : (Nat → Int32)) (c_rules_count : Int32) (c_table_possible : (Nat → Int32)) (c_table_lowest : (Nat → Int32)) (c_failure_codes : (Nat → Int32)) (c_failure_details : (Nat → Int32)) (c_failure_levels : Int32) (c_input_terminals : (Nat → Int32)) (c_input_length : Int32) (c_parser_trace : (Nat → Int32)) (c_parser_traceLength : Int32) (c_parser_tree_symbols : (Nat → Int32)) (c_parser_tree_parents : (Nat → Int32)) (c_parser_tree_heights : (Nat → Int32)) (c_parser_tree_count : Int32) (c_parser_stack : (Nat → Int32)) (c_parser_bringers : (Nat → Int32)) (c_parser_depth : Int32) (c_parser_index : Int32) (c_parser_steps : Int32) : ctI l D tc yX11_parse (Cond.code yX11_parse cX11_parse 2 (some .int) :: jtb) ({ frames := 5, cells := 0, slots := 0, locals := 108 } : Room) [.ref h_] [(h_, .inr (11, [.ref h_rules, g_history, g_sets, g_setsBefore, .ref h_table, .ref h_failure, .ref h_input, .ref h_parser, g_examples, g_repairer])), (h_rules, .inr (6, [.ref h_rules_codes, .int c_rules_count])), (h_rules_codes, .inl (tc.1, 24, .inl c_rules_codes)), (h_table, .inr (8, [.ref h_rules, g_table_sets, g_table_select, .ref h_table_possible, .ref h_table_lowest, g_table_conflicts])), (h_table_possible, .inl (tc.1, 72, .inl c_table_possible)), (h_table_lowest, .inl (tc.1, 72, .inl c_table_lowest)), (h_failure, .inr (1, [.ref h_failure_codes, .ref h_failure_details, .int c_failure_levels])), (h_failure_codes, .inl (tc.1, 3, .inl c_failure_codes)), (h_failure_details, .inl (tc.1, 3, .inl c_failure_details)), (h_input, .inr (3, [.ref h_input_terminals, .int c_input_length])), (h_input_terminals, .inl (tc.1, 40, .inl c_input_terminals)), (h_parser, .inr (4, [.ref h_rules, g_parser_sets, .ref h_table, .ref h_input, g_parser_synchronizing, .ref h_parser_trace, .int c_parser_traceLength, .ref h_parser_tree, g_parser_errorParts, g_parser_errorCount, .ref h_parser_stack, .ref h_parser_bringers, .int c_parser_depth, .int c_parser_index, .int c_parser_steps])), (h_parser_trace, .inl (tc.1, 300, .inl c_parser_trace)), (h_parser_tree, .inr (9, [.ref h_parser_tree_symbols, .ref h_parser_tree_parents, .ref h_parser_tree_heights, .int c_parser_tree_count])), (h_parser_tree_symbols, .inl (tc.1, 300, .inl c_parser_tree_symbols)), (h_parser_tree_parents, .inl (tc.1, 300, .inl c_parser_tree_parents)), (h_parser_tree_heights, .inl (tc.1, 300, .inl c_parser_tree_heights)), (h_parser_stack, .inl (tc.1, 65, .inl c_parser_stack)), (h_parser_bringers, .inl (tc.1, 65, .inl c_parser_bringers))] (fX11_parse N c_rules_codes c_rules_count c_table_possible c_table_lowest c_failure_codes c_failure_details c_failure_levels c_input_terminals c_input_length c_parser_trace c_parser_traceLength c_parser_tree_symbols c_parser_tree_parents c_parser_tree_heights c_parser_tree_count c_parser_stack c_parser_bringers c_parser_depth c_parser_index c_parser_steps) (fun (u : (Nat → Int32) × (Nat → Int32) × Int32 × (Nat → Int32) × Int32 × (Nat → Int32) × (Nat → Int32) × (Nat → Int32) × Int32 × (Nat → Int32) × (Nat → Int32) × Int32 × Int32 × Int32) => [(h_, .inr (11, [.ref h_rules, g_history, g_sets, g_setsBefore, .ref h_table, .ref h_failure, .ref h_input, .ref h_parser, g_examples, g_repairer])), (h_rules, .inr (6, [.ref h_rules_codes, .int c_rules_count])), (h_rules_codes, .inl (tc.1, 24, .inl c_rules_codes)), (h_table, .inr (8, [.ref h_rules, g_table_sets, g_table_select, .ref h_table_possible, .ref h_table_lowest, g_table_conflicts])), (h_table_possible, .inl (tc.1, 72, .inl c_table_possible)), (h_table_lowest, .inl (tc.1, 72, .inl c_table_lowest)), (h_failure, .inr (1, [.ref h_failure_codes, .ref h_failure_details, .int u.2.2.1])), (h_failure_codes, .inl (tc.1, 3, .inl u.1)), (h_failure_details, .inl (tc.1, 3, .inl u.2.1)), (h_input, .inr (3, [.ref h_input_terminals, .int c_input_length])), (h_input_terminals, .inl (tc.1, 40, .inl c_input_terminals)), (h_parser, .inr (4, [.ref h_rules, g_parser_sets, .ref h_table, .ref h_input, g_parser_synchronizing, .ref h_parser_trace, .int u.2.2.2.2.1, .ref h_parser_tree, g_parser_errorParts, g_parser_errorCount, .ref h_parser_stack, .ref h_parser_bringers, .int u.2.2.2.2.2.2.2.2.2.2.2.1, .int u.2.2.2.2.2.2.2.2.2.2.2.2.1, .int u.2.2.2.2.2.2.2.2.2.2.2.2.2])), (h_parser_trace, .inl (tc.1, 300, .inl u.2.2.2.1)), (h_parser_tree, .inr (9, [.ref h_parser_tree_symbols, .ref h_parser_tree_parents, .ref h_parser_tree_heights, .int u.2.2.2.2.2.2.2.2.1])), (h_parser_tree_symbols, .inl (tc.1, 300, .inl u.2.2.2.2.2.1)), (h_parser_tree_parents, .inl (tc.1, 300, .inl u.2.2.2.2.2.2.1)), (h_parser_tree_heights, .inl (tc.1, 300, .inl u.2.2.2.2.2.2.2.1)), (h_parser_stack, .inl (tc.1, 65, .inl u.2.2.2.2.2.2.2.2.2.1)), (h_parser_bringers, .inl (tc.1, 65, .inl u.2.2.2.2.2.2.2.2.2.2.1))]) := by
  refine ctI_of (lv0 := [(0, .ref h_)]) (by decide +kernel) (Nat.le_of_ble_eq_true rfl) rfl (fun X C => ?_)
  unfold fX11_parse
  refine j_aload C d11_parse_0 0 rfl ?_
  refine j_get C d11_parse_1 fl11_61 0 rfl rfl ?_
  refine j_callVI12 (As := []) C d11_parse_4 mv11_258 (kX4_parseInput _ _ tc N h_parser h_rules h_rules_codes h_table h_table_possible h_table_lowest h_input h_input_terminals h_parser_trace h_parser_tree h_parser_tree_symbols h_parser_tree_parents h_parser_tree_heights h_parser_stack h_parser_bringers g_parser_sets g_parser_synchronizing g_parser_errorParts g_parser_errorCount g_table_sets g_table_select g_table_conflicts c_rules_codes c_rules_count c_table_possible c_table_lowest c_input_terminals c_input_length c_parser_trace c_parser_traceLength c_parser_tree_symbols c_parser_tree_parents c_parser_tree_heights c_parser_tree_count c_parser_stack c_parser_bringers c_parser_depth c_parser_index c_parser_steps) ⟨rfl, rfl, Nat.le_of_ble_eq_true rfl, Nat.le_of_ble_eq_true rfl⟩ rfl 11 rfl [11, 1, 2, 3, 4, 5, 9, 10, 12, 13, 14, 15, 16, 17, 18] rfl rfl rfl (Nat.le_of_ble_eq_true rfl) (fun o1 o2 o3 o4 o5 o6 o7 o8 o9 o10 o11 => [(h_, .inr (11, [.ref h_rules, g_history, g_sets, g_setsBefore, .ref h_table, .ref h_failure, .ref h_input, .ref h_parser, g_examples, g_repairer])), (h_rules, .inr (6, [.ref h_rules_codes, .int c_rules_count])), (h_rules_codes, .inl (tc.1, 24, .inl c_rules_codes)), (h_table, .inr (8, [.ref h_rules, g_table_sets, g_table_select, .ref h_table_possible, .ref h_table_lowest, g_table_conflicts])), (h_table_possible, .inl (tc.1, 72, .inl c_table_possible)), (h_table_lowest, .inl (tc.1, 72, .inl c_table_lowest)), (h_failure, .inr (1, [.ref h_failure_codes, .ref h_failure_details, .int c_failure_levels])), (h_failure_codes, .inl (tc.1, 3, .inl c_failure_codes)), (h_failure_details, .inl (tc.1, 3, .inl c_failure_details)), (h_input, .inr (3, [.ref h_input_terminals, .int c_input_length])), (h_input_terminals, .inl (tc.1, 40, .inl c_input_terminals)), (h_parser, .inr (4, [.ref h_rules, g_parser_sets, .ref h_table, .ref h_input, g_parser_synchronizing, .ref h_parser_trace, .int o2, .ref h_parser_tree, g_parser_errorParts, g_parser_errorCount, .ref h_parser_stack, .ref h_parser_bringers, .int o9, .int o10, .int o11])), (h_parser_trace, .inl (tc.1, 300, .inl o1)), (h_parser_tree, .inr (9, [.ref h_parser_tree_symbols, .ref h_parser_tree_parents, .ref h_parser_tree_heights, .int o6])), (h_parser_tree_symbols, .inl (tc.1, 300, .inl o3)), (h_parser_tree_parents, .inl (tc.1, 300, .inl o4)), (h_parser_tree_heights, .inl (tc.1, 300, .inl o5)), (h_parser_stack, .inl (tc.1, 65, .inl o7)), (h_parser_bringers, .inl (tc.1, 65, .inl o8))]) (fun _ => rfl) (fun _ => rfl) (fun _ _ _ _ _ _ _ _ _ _ _ => rfl) (fun o12 o1 o2 o3 o4 o5 o6 o7 o8 o9 o10 o11 => ?_)
  refine j_istore C d11_parse_7 (by decide) (lv' := [(1, .int o12), (0, .ref h_)]) rfl ?_
  refine j_iload C d11_parse_8 0 rfl ?_
  refine j_join3 24 (fun v13 v14 v15 => [(h_, .inr (11, [.ref h_rules, g_history, g_sets, g_setsBefore, .ref h_table, .ref h_failure, .ref h_input, .ref h_parser, g_examples, g_repairer])), (h_rules, .inr (6, [.ref h_rules_codes, .int c_rules_count])), (h_rules_codes, .inl (tc.1, 24, .inl c_rules_codes)), (h_table, .inr (8, [.ref h_rules, g_table_sets, g_table_select, .ref h_table_possible, .ref h_table_lowest, g_table_conflicts])), (h_table_possible, .inl (tc.1, 72, .inl c_table_possible)), (h_table_lowest, .inl (tc.1, 72, .inl c_table_lowest)), (h_failure, .inr (1, [.ref h_failure_codes, .ref h_failure_details, .int v15])), (h_failure_codes, .inl (tc.1, 3, .inl v13)), (h_failure_details, .inl (tc.1, 3, .inl v14)), (h_input, .inr (3, [.ref h_input_terminals, .int c_input_length])), (h_input_terminals, .inl (tc.1, 40, .inl c_input_terminals)), (h_parser, .inr (4, [.ref h_rules, g_parser_sets, .ref h_table, .ref h_input, g_parser_synchronizing, .ref h_parser_trace, .int o2, .ref h_parser_tree, g_parser_errorParts, g_parser_errorCount, .ref h_parser_stack, .ref h_parser_bringers, .int o9, .int o10, .int o11])), (h_parser_trace, .inl (tc.1, 300, .inl o1)), (h_parser_tree, .inr (9, [.ref h_parser_tree_symbols, .ref h_parser_tree_parents, .ref h_parser_tree_heights, .int o6])), (h_parser_tree_symbols, .inl (tc.1, 300, .inl o3)), (h_parser_tree_parents, .inl (tc.1, 300, .inl o4)), (h_parser_tree_heights, .inl (tc.1, 300, .inl o5)), (h_parser_stack, .inl (tc.1, 65, .inl o7)), (h_parser_bringers, .inl (tc.1, 65, .inl o8))]) (fun v13 v14 v15 => [(1, .int o12)]) (fun v13 v14 v15 => []) (fun v13 v14 v15 => ?_) (fun k16 hk16 => ?_)
  · refine j_iload C d11_parse_24 0 rfl ?_
    exact j_iret C d11_parse_25 rfl
  · refine j_if_ge C d11_parse_9 ?_ ?_
    · exact j_sub [0] rfl (hk16 _ _ _)
    · refine j_aload C d11_parse_12 1 rfl ?_
      refine j_get C d11_parse_13 fl11_61 0 rfl rfl ?_
      refine j_aload C d11_parse_16 1 rfl ?_
      refine j_get C d11_parse_17 fl11_45 0 rfl rfl ?_
      refine j_iload C d11_parse_20 0 rfl ?_
      refine j_callVV3 (As := [.ref h_failure, .int o12]) C d11_parse_21 mv11_262 (kX4_explain _ _ tc N h_parser h_rules h_rules_codes h_table h_table_possible h_input h_parser_stack h_failure h_failure_codes h_failure_details g_parser_sets g_parser_synchronizing (.ref h_parser_trace) (.int o2) (.ref h_parser_tree) g_parser_errorParts g_parser_errorCount (.ref h_parser_bringers) g_table_sets g_table_select (.ref h_table_lowest) g_table_conflicts (.ref h_input_terminals) c_rules_codes c_rules_count c_table_possible c_input_length o7 o9 o10 o11 c_failure_codes c_failure_details c_failure_levels o12) ⟨rfl, rfl, Nat.le_of_ble_eq_true rfl, Nat.le_of_ble_eq_true rfl⟩ rfl 11 rfl [11, 1, 2, 3, 4, 9, 17, 6, 7, 8] rfl rfl rfl (Nat.le_of_ble_eq_true rfl) (fun o17 o18 o19 => [(h_, .inr (11, [.ref h_rules, g_history, g_sets, g_setsBefore, .ref h_table, .ref h_failure, .ref h_input, .ref h_parser, g_examples, g_repairer])), (h_rules, .inr (6, [.ref h_rules_codes, .int c_rules_count])), (h_rules_codes, .inl (tc.1, 24, .inl c_rules_codes)), (h_table, .inr (8, [.ref h_rules, g_table_sets, g_table_select, .ref h_table_possible, .ref h_table_lowest, g_table_conflicts])), (h_table_possible, .inl (tc.1, 72, .inl c_table_possible)), (h_table_lowest, .inl (tc.1, 72, .inl c_table_lowest)), (h_failure, .inr (1, [.ref h_failure_codes, .ref h_failure_details, .int o19])), (h_failure_codes, .inl (tc.1, 3, .inl o17)), (h_failure_details, .inl (tc.1, 3, .inl o18)), (h_input, .inr (3, [.ref h_input_terminals, .int c_input_length])), (h_input_terminals, .inl (tc.1, 40, .inl c_input_terminals)), (h_parser, .inr (4, [.ref h_rules, g_parser_sets, .ref h_table, .ref h_input, g_parser_synchronizing, .ref h_parser_trace, .int o2, .ref h_parser_tree, g_parser_errorParts, g_parser_errorCount, .ref h_parser_stack, .ref h_parser_bringers, .int o9, .int o10, .int o11])), (h_parser_trace, .inl (tc.1, 300, .inl o1)), (h_parser_tree, .inr (9, [.ref h_parser_tree_symbols, .ref h_parser_tree_parents, .ref h_parser_tree_heights, .int o6])), (h_parser_tree_symbols, .inl (tc.1, 300, .inl o3)), (h_parser_tree_parents, .inl (tc.1, 300, .inl o4)), (h_parser_tree_heights, .inl (tc.1, 300, .inl o5)), (h_parser_stack, .inl (tc.1, 65, .inl o7)), (h_parser_bringers, .inl (tc.1, 65, .inl o8))]) (fun _ => rfl) (fun _ => rfl) (fun _ _ _ => rfl) (fun o17 o18 o19 => ?_)
      exact j_sub [0] rfl (hk16 _ _ _)

theorem d11_recover_0 : jda cX11_recover 0 0 1 := Or.inl ⟨0, by decide +kernel⟩
theorem d11_recover_1 : jd cX11_recover 1 (.getfield 61) 3 4 := by decide +kernel
theorem d11_recover_4 : jd cX11_recover 4 (.invokevirtual 266) 3 7 := by decide +kernel
theorem d11_recover_7 : decode cX11_recover 7 = .ok (.ireturn, 1) := by decide +kernel
set_option maxHeartbeats 4000000 in
set_option maxRecDepth 100000 in
theorem kX11_recover (l : Launch) (D : va_G) (tc : jTC) (N : Nat) (h_ h_rules h_rules_codes h_sets h_sets_follow h_table h_table_possible h_table_lowest h_input h_input_terminals h_parser h_parser_synchronizing h_parser_trace h_parser_tree h_parser_errorParts h_parser_stack h_parser_bringers : Nat) (g_history g_setsBefore g_failure g_examples g_repairer g_sets_nullable g_sets_first g_sets_begins g_table_select g_table_conflicts g_parser_tree_symbols g_parser_tree_parents g_parser_tree_heights : Value) (c_rules_codes : (Nat → Int32)) (c_rules_count : Int32) (c_sets_follow : (Nat → Int32)) (c_table_possible : (Nat → Int32)) (c_table_lowest : (Nat → Int32)) (c_input_terminals : (Nat → Int32)) (c_input_length : Int32) (c_parser_synchronizing : (Nat → Int32)) (c_parser_trace : (Nat → Int32)) (c_parser_traceLength : Int32) (c_parser_tree_count : Int32) (c_parser_errorParts : (Nat → Int32)) (c_parser_errorCount : Int32) (c_parser_stack : (Nat → Int32)) (c_parser_bringers : (Nat → Int32)) (c_parser_depth : Int32) (c_parser_index : Int32) (c_parser_steps : Int32) : ctI l D tc yX11_recover (Cond.code yX11_recover cX11_recover 1 (some .int) :: jtb) ({ frames := 5, cells := 0, slots := 0, locals := 105 } : Room) [.ref h_] [(h_, .inr (11, [.ref h_rules, g_history, .ref h_sets, g_setsBefore, .ref h_table, g_failure, .ref h_input, .ref h_parser, g_examples, g_repairer])), (h_rules, .inr (6, [.ref h_rules_codes, .int c_rules_count])), (h_rules_codes, .inl (tc.1, 24, .inl c_rules_codes)), (h_sets, .inr (7, [g_sets_nullable, g_sets_first, .ref h_sets_follow, g_sets_begins])), (h_sets_follow, .inl (tc.1, 8, .inl c_sets_follow)), (h_table, .inr (8, [.ref h_rules, .ref h_sets, g_table_select, .ref h_table_possible, .ref h_table_lowest, g_table_conflicts])), (h_table_possible, .inl (tc.1, 72, .inl c_table_possible)), (h_table_lowest, .inl (tc.1, 72, .inl c_table_lowest)), (h_input, .inr (3, [.ref h_input_terminals, .int c_input_length])), (h_input_terminals, .inl (tc.1, 40, .inl c_input_terminals)), (h_parser, .inr (4, [.ref h_rules, .ref h_sets, .ref h_table, .ref h_input, .ref h_parser_synchronizing, .ref h_parser_trace, .int c_parser_traceLength, .ref h_parser_tree, .ref h_parser_errorParts, .int c_parser_errorCount, .ref h_parser_stack, .ref h_parser_bringers, .int c_parser_depth, .int c_parser_index, .int c_parser_steps])), (h_parser_synchronizing, .inl (tc.1, 8, .inl c_parser_synchronizing)), (h_parser_trace, .inl (tc.1, 300, .inl c_parser_trace)), (h_parser_tree, .inr (9, [g_parser_tree_symbols, g_parser_tree_parents, g_parser_tree_heights, .int c_parser_tree_count])), (h_parser_errorParts, .inl (tc.1, 900, .inl c_parser_errorParts)), (h_parser_stack, .inl (tc.1, 65, .inl c_parser_stack)), (h_parser_bringers, .inl (tc.1, 65, .inl c_parser_bringers))] (fX11_recover N c_rules_codes c_rules_count c_sets_follow c_table_possible c_table_lowest c_input_terminals c_input_length c_parser_synchronizing c_parser_trace c_parser_traceLength c_parser_tree_count c_parser_errorParts c_parser_errorCount c_parser_stack c_parser_bringers c_parser_depth c_parser_index c_parser_steps) (fun (u : (Nat → Int32) × Int32 × Int32 × (Nat → Int32) × Int32 × (Nat → Int32) × (Nat → Int32) × Int32 × Int32 × Int32) => [(h_, .inr (11, [.ref h_rules, g_history, .ref h_sets, g_setsBefore, .ref h_table, g_failure, .ref h_input, .ref h_parser, g_examples, g_repairer])), (h_rules, .inr (6, [.ref h_rules_codes, .int c_rules_count])), (h_rules_codes, .inl (tc.1, 24, .inl c_rules_codes)), (h_sets, .inr (7, [g_sets_nullable, g_sets_first, .ref h_sets_follow, g_sets_begins])), (h_sets_follow, .inl (tc.1, 8, .inl c_sets_follow)), (h_table, .inr (8, [.ref h_rules, .ref h_sets, g_table_select, .ref h_table_possible, .ref h_table_lowest, g_table_conflicts])), (h_table_possible, .inl (tc.1, 72, .inl c_table_possible)), (h_table_lowest, .inl (tc.1, 72, .inl c_table_lowest)), (h_input, .inr (3, [.ref h_input_terminals, .int c_input_length])), (h_input_terminals, .inl (tc.1, 40, .inl c_input_terminals)), (h_parser, .inr (4, [.ref h_rules, .ref h_sets, .ref h_table, .ref h_input, .ref h_parser_synchronizing, .ref h_parser_trace, .int u.2.1, .ref h_parser_tree, .ref h_parser_errorParts, .int u.2.2.2.2.1, .ref h_parser_stack, .ref h_parser_bringers, .int u.2.2.2.2.2.2.2.1, .int u.2.2.2.2.2.2.2.2.1, .int u.2.2.2.2.2.2.2.2.2])), (h_parser_synchronizing, .inl (tc.1, 8, .inl c_parser_synchronizing)), (h_parser_trace, .inl (tc.1, 300, .inl u.1)), (h_parser_tree, .inr (9, [g_parser_tree_symbols, g_parser_tree_parents, g_parser_tree_heights, .int u.2.2.1])), (h_parser_errorParts, .inl (tc.1, 900, .inl u.2.2.2.1)), (h_parser_stack, .inl (tc.1, 65, .inl u.2.2.2.2.2.1)), (h_parser_bringers, .inl (tc.1, 65, .inl u.2.2.2.2.2.2.1))]) := by
  refine ctI_of (lv0 := [(0, .ref h_)]) (by decide +kernel) (Nat.le_of_ble_eq_true rfl) rfl (fun X C => ?_)
  unfold fX11_recover
  refine j_aload C d11_recover_0 0 rfl ?_
  refine j_get C d11_recover_1 fl11_61 0 rfl rfl ?_
  refine j_callVI11 (As := []) C d11_recover_4 mv11_266 (kX4_recoverInput _ _ tc N h_parser h_rules h_rules_codes h_sets h_sets_follow h_table h_table_possible h_table_lowest h_input h_input_terminals h_parser_synchronizing h_parser_trace h_parser_tree h_parser_errorParts h_parser_stack h_parser_bringers g_sets_nullable g_sets_first g_sets_begins g_table_select g_table_conflicts g_parser_tree_symbols g_parser_tree_parents g_parser_tree_heights c_rules_codes c_rules_count c_sets_follow c_table_possible c_table_lowest c_input_terminals c_input_length c_parser_synchronizing c_parser_trace c_parser_traceLength c_parser_tree_count c_parser_errorParts c_parser_errorCount c_parser_stack c_parser_bringers c_parser_depth c_parser_index c_parser_steps) ⟨rfl, rfl, Nat.le_of_ble_eq_true rfl, Nat.le_of_ble_eq_true rfl⟩ rfl 10 rfl [10, 1, 2, 3, 4, 5, 6, 7, 8, 9, 11, 12, 13, 14, 15, 16] rfl rfl rfl (Nat.le_of_ble_eq_true rfl) (fun o1 o2 o3 o4 o5 o6 o7 o8 o9 o10 => [(h_, .inr (11, [.ref h_rules, g_history, .ref h_sets, g_setsBefore, .ref h_table, g_failure, .ref h_input, .ref h_parser, g_examples, g_repairer])), (h_rules, .inr (6, [.ref h_rules_codes, .int c_rules_count])), (h_rules_codes, .inl (tc.1, 24, .inl c_rules_codes)), (h_sets, .inr (7, [g_sets_nullable, g_sets_first, .ref h_sets_follow, g_sets_begins])), (h_sets_follow, .inl (tc.1, 8, .inl c_sets_follow)), (h_table, .inr (8, [.ref h_rules, .ref h_sets, g_table_select, .ref h_table_possible, .ref h_table_lowest, g_table_conflicts])), (h_table_possible, .inl (tc.1, 72, .inl c_table_possible)), (h_table_lowest, .inl (tc.1, 72, .inl c_table_lowest)), (h_input, .inr (3, [.ref h_input_terminals, .int c_input_length])), (h_input_terminals, .inl (tc.1, 40, .inl c_input_terminals)), (h_parser, .inr (4, [.ref h_rules, .ref h_sets, .ref h_table, .ref h_input, .ref h_parser_synchronizing, .ref h_parser_trace, .int o2, .ref h_parser_tree, .ref h_parser_errorParts, .int o5, .ref h_parser_stack, .ref h_parser_bringers, .int o8, .int o9, .int o10])), (h_parser_synchronizing, .inl (tc.1, 8, .inl c_parser_synchronizing)), (h_parser_trace, .inl (tc.1, 300, .inl o1)), (h_parser_tree, .inr (9, [g_parser_tree_symbols, g_parser_tree_parents, g_parser_tree_heights, .int o3])), (h_parser_errorParts, .inl (tc.1, 900, .inl o4)), (h_parser_stack, .inl (tc.1, 65, .inl o6)), (h_parser_bringers, .inl (tc.1, 65, .inl o7))]) (fun _ => rfl) (fun _ => rfl) (fun _ _ _ _ _ _ _ _ _ _ => rfl) (fun o11 o1 o2 o3 o4 o5 o6 o7 o8 o9 o10 => ?_)
  exact j_iret C d11_recover_7 rfl

